section CDC
theorem dX6_init_0 : decode cX6_init 0 = .ok (.aload_n 0, 1) := by decide +kernel
theorem dX6_init_1 : decode cX6_init 1 = .ok (.invokespecial 1, 3) := by decide +kernel
theorem dX6_init_4 : decode cX6_init 4 = .ok (.aload_n 0, 1) := by decide +kernel
theorem dX6_init_5 : decode cX6_init 5 = .ok (.sipush 846, 3) := by decide +kernel
theorem dX6_init_8 : decode cX6_init 8 = .ok (.newarray .int, 2) := by decide +kernel
theorem dX6_init_10 : decode cX6_init 10 = .ok (.putfield 7, 3) := by decide +kernel
theorem dX6_init_13 : decode cX6_init 13 = .ok (.aload_n 0, 1) := by decide +kernel
theorem dX6_init_14 : decode cX6_init 14 = .ok (.sipush 846, 3) := by decide +kernel
theorem dX6_init_17 : decode cX6_init 17 = .ok (.newarray .int, 2) := by decide +kernel
theorem dX6_init_19 : decode cX6_init 19 = .ok (.putfield 13, 3) := by decide +kernel
theorem dX6_init_22 : decode cX6_init 22 = .ok (.aload_n 0, 1) := by decide +kernel
theorem dX6_init_23 : decode cX6_init 23 = .ok (.bipush 6, 2) := by decide +kernel
theorem dX6_init_25 : decode cX6_init 25 = .ok (.newarray .int, 2) := by decide +kernel
theorem dX6_init_27 : decode cX6_init 27 = .ok (.putfield 16, 3) := by decide +kernel
theorem dX6_init_30 : decode cX6_init 30 = .ok (.aload_n 0, 1) := by decide +kernel
theorem dX6_init_31 : decode cX6_init 31 = .ok (.bipush 64, 2) := by decide +kernel
theorem dX6_init_33 : decode cX6_init 33 = .ok (.newarray .boolean, 2) := by decide +kernel
theorem dX6_init_35 : decode cX6_init 35 = .ok (.putfield 19, 3) := by decide +kernel
theorem dX6_init_38 : decode cX6_init 38 = .ok (.aload_n 0, 1) := by decide +kernel
theorem dX6_init_39 : decode cX6_init 39 = .ok (.sipush 384, 3) := by decide +kernel
theorem dX6_init_42 : decode cX6_init 42 = .ok (.newarray .int, 2) := by decide +kernel
theorem dX6_init_44 : decode cX6_init 44 = .ok (.putfield 23, 3) := by decide +kernel
theorem dX6_init_47 : decode cX6_init 47 = .ok (.aload_n 0, 1) := by decide +kernel
theorem dX6_init_48 : decode cX6_init 48 = .ok (.sipush 16384, 3) := by decide +kernel
theorem dX6_init_51 : decode cX6_init 51 = .ok (.newarray .int, 2) := by decide +kernel
theorem dX6_init_53 : decode cX6_init 53 = .ok (.putfield 26, 3) := by decide +kernel
theorem dX6_init_56 : decode cX6_init 56 = .ok (.aload_n 0, 1) := by decide +kernel
theorem dX6_init_57 : decode cX6_init 57 = .ok (.sipush 201, 3) := by decide +kernel
theorem dX6_init_60 : decode cX6_init 60 = .ok (.newarray .int, 2) := by decide +kernel
theorem dX6_init_62 : decode cX6_init 62 = .ok (.putfield 29, 3) := by decide +kernel
theorem dX6_init_65 : decode cX6_init 65 = .ok (.aload_n 0, 1) := by decide +kernel
theorem dX6_init_66 : decode cX6_init 66 = .ok (.iconst 4, 1) := by decide +kernel
theorem dX6_init_67 : decode cX6_init 67 = .ok (.newarray .int, 2) := by decide +kernel
theorem dX6_init_69 : decode cX6_init 69 = .ok (.putfield 32, 3) := by decide +kernel
theorem dX6_init_72 : decode cX6_init 72 = .ok (.aload_n 0, 1) := by decide +kernel
theorem dX6_init_73 : decode cX6_init 73 = .ok (.bipush 12, 2) := by decide +kernel
theorem dX6_init_75 : decode cX6_init 75 = .ok (.newarray .int, 2) := by decide +kernel
theorem dX6_init_77 : decode cX6_init 77 = .ok (.putfield 35, 3) := by decide +kernel
theorem dX6_init_80 : decode cX6_init 80 = .ok (.aload_n 0, 1) := by decide +kernel
theorem dX6_init_81 : decode cX6_init 81 = .ok (.bipush 20, 2) := by decide +kernel
theorem dX6_init_83 : decode cX6_init 83 = .ok (.newarray .int, 2) := by decide +kernel
theorem dX6_init_85 : decode cX6_init 85 = .ok (.putfield 38, 3) := by decide +kernel
theorem dX6_init_88 : decode cX6_init 88 = .ok (.aload_n 0, 1) := by decide +kernel
theorem dX6_init_89 : decode cX6_init 89 = .ok (.getfield 7, 3) := by decide +kernel
theorem dX6_init_92 : decode cX6_init 92 = .ok (.iconst 4, 1) := by decide +kernel
theorem dX6_init_93 : decode cX6_init 93 = .ok (.iconst (-1), 1) := by decide +kernel
theorem dX6_init_94 : decode cX6_init 94 = .ok (.iastore, 1) := by decide +kernel
theorem dX6_init_95 : decode cX6_init 95 = .ok (.return_, 1) := by decide +kernel
theorem dX6_in_0 : decode cX6_in 0 = .ok (.iload_n 0, 1) := by decide +kernel
theorem dX6_in_1 : decode cX6_in 1 = .ok (.iload_n 1, 1) := by decide +kernel
theorem dX6_in_2 : decode cX6_in 2 = .ok (.if_icmp .lt 12, 3) := by decide +kernel
theorem dX6_in_5 : decode cX6_in 5 = .ok (.iload_n 0, 1) := by decide +kernel
theorem dX6_in_6 : decode cX6_in 6 = .ok (.iload_n 2, 1) := by decide +kernel
theorem dX6_in_7 : decode cX6_in 7 = .ok (.if_icmp .gt 7, 3) := by decide +kernel
theorem dX6_in_10 : decode cX6_in 10 = .ok (.iconst 1, 1) := by decide +kernel
theorem dX6_in_11 : decode cX6_in 11 = .ok (.goto 4, 3) := by decide +kernel
theorem dX6_in_14 : decode cX6_in 14 = .ok (.iconst 0, 1) := by decide +kernel
theorem dX6_in_15 : decode cX6_in 15 = .ok (.ireturn, 1) := by decide +kernel
theorem dX6_isPerson_0 : decode cX6_isPerson 0 = .ok (.iload_n 1, 1) := by decide +kernel
theorem dX6_isPerson_1 : decode cX6_isPerson 1 = .ok (.iconst 0, 1) := by decide +kernel
theorem dX6_isPerson_2 : decode cX6_isPerson 2 = .ok (.aload_n 0, 1) := by decide +kernel
theorem dX6_isPerson_3 : decode cX6_isPerson 3 = .ok (.getfield 7, 3) := by decide +kernel
theorem dX6_isPerson_6 : decode cX6_isPerson 6 = .ok (.iconst 0, 1) := by decide +kernel
theorem dX6_isPerson_7 : decode cX6_isPerson 7 = .ok (.iaload, 1) := by decide +kernel
theorem dX6_isPerson_8 : decode cX6_isPerson 8 = .ok (.iconst 1, 1) := by decide +kernel
theorem dX6_isPerson_9 : decode cX6_isPerson 9 = .ok (.isub, 1) := by decide +kernel
theorem dX6_isPerson_10 : decode cX6_isPerson 10 = .ok (.invokestatic 45, 3) := by decide +kernel
theorem dX6_isPerson_13 : decode cX6_isPerson 13 = .ok (.ireturn, 1) := by decide +kernel
theorem dX6_isHour_0 : decode cX6_isHour 0 = .ok (.iload_n 0, 1) := by decide +kernel
theorem dX6_isHour_1 : decode cX6_isHour 1 = .ok (.iconst 0, 1) := by decide +kernel
theorem dX6_isHour_2 : decode cX6_isHour 2 = .ok (.iconst 2, 1) := by decide +kernel
theorem dX6_isHour_3 : decode cX6_isHour 3 = .ok (.invokestatic 45, 3) := by decide +kernel
theorem dX6_isHour_6 : decode cX6_isHour 6 = .ok (.ireturn, 1) := by decide +kernel
theorem dX6_days_0 : decode cX6_days 0 = .ok (.iconst 1, 1) := by decide +kernel
theorem dX6_days_1 : decode cX6_days 1 = .ok (.iconst 3, 1) := by decide +kernel
theorem dX6_days_2 : decode cX6_days 2 = .ok (.aload_n 0, 1) := by decide +kernel
theorem dX6_days_3 : decode cX6_days 3 = .ok (.getfield 7, 3) := by decide +kernel
theorem dX6_days_6 : decode cX6_days 6 = .ok (.iconst 0, 1) := by decide +kernel
theorem dX6_days_7 : decode cX6_days 7 = .ok (.iaload, 1) := by decide +kernel
theorem dX6_days_8 : decode cX6_days 8 = .ok (.imul, 1) := by decide +kernel
theorem dX6_days_9 : decode cX6_days 9 = .ok (.ishl, 1) := by decide +kernel
theorem dX6_days_10 : decode cX6_days 10 = .ok (.ireturn, 1) := by decide +kernel
theorem dX6_isDay_0 : decode cX6_isDay 0 = .ok (.iload_n 1, 1) := by decide +kernel
theorem dX6_isDay_1 : decode cX6_isDay 1 = .ok (.iconst 0, 1) := by decide +kernel
theorem dX6_isDay_2 : decode cX6_isDay 2 = .ok (.aload_n 0, 1) := by decide +kernel
theorem dX6_isDay_3 : decode cX6_isDay 3 = .ok (.invokevirtual 49, 3) := by decide +kernel
theorem dX6_isDay_6 : decode cX6_isDay 6 = .ok (.iconst 1, 1) := by decide +kernel
theorem dX6_isDay_7 : decode cX6_isDay 7 = .ok (.isub, 1) := by decide +kernel
theorem dX6_isDay_8 : decode cX6_isDay 8 = .ok (.invokestatic 45, 3) := by decide +kernel
theorem dX6_isDay_11 : decode cX6_isDay 11 = .ok (.ireturn, 1) := by decide +kernel
theorem dX6_does_0 : decode cX6_does 0 = .ok (.iload_n 0, 1) := by decide +kernel
theorem dX6_does_1 : decode cX6_does 1 = .ok (.iconst 3, 1) := by decide +kernel
theorem dX6_does_2 : decode cX6_does 2 = .ok (.iload_n 1, 1) := by decide +kernel
theorem dX6_does_3 : decode cX6_does 3 = .ok (.imul, 1) := by decide +kernel
theorem dX6_does_4 : decode cX6_does 4 = .ok (.iload_n 2, 1) := by decide +kernel
theorem dX6_does_5 : decode cX6_does 5 = .ok (.iadd, 1) := by decide +kernel
theorem dX6_does_6 : decode cX6_does 6 = .ok (.ishr, 1) := by decide +kernel
theorem dX6_does_7 : decode cX6_does 7 = .ok (.iconst 1, 1) := by decide +kernel
theorem dX6_does_8 : decode cX6_does 8 = .ok (.iand, 1) := by decide +kernel
theorem dX6_does_9 : decode cX6_does 9 = .ok (.iconst 1, 1) := by decide +kernel
theorem dX6_does_10 : decode cX6_does 10 = .ok (.if_icmp .ne 7, 3) := by decide +kernel
theorem dX6_does_13 : decode cX6_does 13 = .ok (.iconst 1, 1) := by decide +kernel
theorem dX6_does_14 : decode cX6_does 14 = .ok (.goto 4, 3) := by decide +kernel
theorem dX6_does_17 : decode cX6_does 17 = .ok (.iconst 0, 1) := by decide +kernel
theorem dX6_does_18 : decode cX6_does 18 = .ok (.ireturn, 1) := by decide +kernel
theorem dX6_feed_0 : decode cX6_feed 0 = .ok (.iload_n 1, 1) := by decide +kernel
theorem dX6_feed_1 : decode cX6_feed 1 = .ok (.iconst 0, 1) := by decide +kernel
theorem dX6_feed_2 : decode cX6_feed 2 = .ok (.bipush 127, 2) := by decide +kernel
theorem dX6_feed_4 : decode cX6_feed 4 = .ok (.invokestatic 45, 3) := by decide +kernel
theorem dX6_feed_7 : decode cX6_feed 7 = .ok (.ifCond .ne 6, 3) := by decide +kernel
theorem dX6_feed_10 : decode cX6_feed 10 = .ok (.bipush (-2), 2) := by decide +kernel
theorem dX6_feed_12 : decode cX6_feed 12 = .ok (.ireturn, 1) := by decide +kernel
theorem dX6_feed_13 : decode cX6_feed 13 = .ok (.aload_n 0, 1) := by decide +kernel
theorem dX6_feed_14 : decode cX6_feed 14 = .ok (.getfield 7, 3) := by decide +kernel
theorem dX6_feed_17 : decode cX6_feed 17 = .ok (.iconst 3, 1) := by decide +kernel
theorem dX6_feed_18 : decode cX6_feed 18 = .ok (.iaload, 1) := by decide +kernel
theorem dX6_feed_19 : decode cX6_feed 19 = .ok (.bipush 100, 2) := by decide +kernel
theorem dX6_feed_21 : decode cX6_feed 21 = .ok (.if_icmp .ne 6, 3) := by decide +kernel
theorem dX6_feed_24 : decode cX6_feed 24 = .ok (.bipush (-4), 2) := by decide +kernel
theorem dX6_feed_26 : decode cX6_feed 26 = .ok (.ireturn, 1) := by decide +kernel
theorem dX6_feed_27 : decode cX6_feed 27 = .ok (.aload_n 0, 1) := by decide +kernel
theorem dX6_feed_28 : decode cX6_feed 28 = .ok (.getfield 7, 3) := by decide +kernel
theorem dX6_feed_31 : decode cX6_feed 31 = .ok (.bipush 10, 2) := by decide +kernel
theorem dX6_feed_33 : decode cX6_feed 33 = .ok (.aload_n 0, 1) := by decide +kernel
theorem dX6_feed_34 : decode cX6_feed 34 = .ok (.getfield 7, 3) := by decide +kernel
theorem dX6_feed_37 : decode cX6_feed 37 = .ok (.iconst 3, 1) := by decide +kernel
theorem dX6_feed_38 : decode cX6_feed 38 = .ok (.iaload, 1) := by decide +kernel
theorem dX6_feed_39 : decode cX6_feed 39 = .ok (.iadd, 1) := by decide +kernel
theorem dX6_feed_40 : decode cX6_feed 40 = .ok (.iload_n 1, 1) := by decide +kernel
theorem dX6_feed_41 : decode cX6_feed 41 = .ok (.iastore, 1) := by decide +kernel
theorem dX6_feed_42 : decode cX6_feed 42 = .ok (.aload_n 0, 1) := by decide +kernel
theorem dX6_feed_43 : decode cX6_feed 43 = .ok (.getfield 7, 3) := by decide +kernel
theorem dX6_feed_46 : decode cX6_feed 46 = .ok (.iconst 3, 1) := by decide +kernel
theorem dX6_feed_47 : decode cX6_feed 47 = .ok (.dup2, 1) := by decide +kernel
theorem dX6_feed_48 : decode cX6_feed 48 = .ok (.iaload, 1) := by decide +kernel
theorem dX6_feed_49 : decode cX6_feed 49 = .ok (.iconst 1, 1) := by decide +kernel
theorem dX6_feed_50 : decode cX6_feed 50 = .ok (.iadd, 1) := by decide +kernel
theorem dX6_feed_51 : decode cX6_feed 51 = .ok (.iastore, 1) := by decide +kernel
theorem dX6_feed_52 : decode cX6_feed 52 = .ok (.aload_n 0, 1) := by decide +kernel
theorem dX6_feed_53 : decode cX6_feed 53 = .ok (.getfield 7, 3) := by decide +kernel
theorem dX6_feed_56 : decode cX6_feed 56 = .ok (.iconst 3, 1) := by decide +kernel
theorem dX6_feed_57 : decode cX6_feed 57 = .ok (.iaload, 1) := by decide +kernel
theorem dX6_feed_58 : decode cX6_feed 58 = .ok (.ireturn, 1) := by decide +kernel
theorem dX6_here_0 : decode cX6_here 0 = .ok (.aload_n 0, 1) := by decide +kernel
theorem dX6_here_1 : decode cX6_here 1 = .ok (.getfield 53, 3) := by decide +kernel
theorem dX6_here_4 : decode cX6_here 4 = .ok (.aload_n 0, 1) := by decide +kernel
theorem dX6_here_5 : decode cX6_here 5 = .ok (.getfield 56, 3) := by decide +kernel
theorem dX6_here_8 : decode cX6_here 8 = .ok (.if_icmp .ge 18, 3) := by decide +kernel
theorem dX6_here_11 : decode cX6_here 11 = .ok (.aload_n 0, 1) := by decide +kernel
theorem dX6_here_12 : decode cX6_here 12 = .ok (.getfield 7, 3) := by decide +kernel
theorem dX6_here_15 : decode cX6_here 15 = .ok (.bipush 10, 2) := by decide +kernel
theorem dX6_here_17 : decode cX6_here 17 = .ok (.aload_n 0, 1) := by decide +kernel
theorem dX6_here_18 : decode cX6_here 18 = .ok (.getfield 53, 3) := by decide +kernel
theorem dX6_here_21 : decode cX6_here 21 = .ok (.iadd, 1) := by decide +kernel
theorem dX6_here_22 : decode cX6_here 22 = .ok (.iaload, 1) := by decide +kernel
theorem dX6_here_23 : decode cX6_here 23 = .ok (.goto 4, 3) := by decide +kernel
theorem dX6_here_26 : decode cX6_here 26 = .ok (.iconst (-1), 1) := by decide +kernel
theorem dX6_here_27 : decode cX6_here 27 = .ok (.ireturn, 1) := by decide +kernel
theorem dX6_must_0 : decode cX6_must 0 = .ok (.aload_n 0, 1) := by decide +kernel
theorem dX6_must_1 : decode cX6_must 1 = .ok (.aload_n 0, 1) := by decide +kernel
theorem dX6_must_2 : decode cX6_must 2 = .ok (.getfield 59, 3) := by decide +kernel
theorem dX6_must_5 : decode cX6_must 5 = .ok (.ifCond .ne 11, 3) := by decide +kernel
theorem dX6_must_8 : decode cX6_must 8 = .ok (.aload_n 0, 1) := by decide +kernel
theorem dX6_must_9 : decode cX6_must 9 = .ok (.invokevirtual 63, 3) := by decide +kernel
theorem dX6_must_12 : decode cX6_must 12 = .ok (.iload_n 1, 1) := by decide +kernel
theorem dX6_must_13 : decode cX6_must 13 = .ok (.if_icmp .eq 7, 3) := by decide +kernel
theorem dX6_must_16 : decode cX6_must 16 = .ok (.iconst 1, 1) := by decide +kernel
theorem dX6_must_17 : decode cX6_must 17 = .ok (.goto 4, 3) := by decide +kernel
theorem dX6_must_20 : decode cX6_must 20 = .ok (.iconst 0, 1) := by decide +kernel
theorem dX6_must_21 : decode cX6_must 21 = .ok (.putfield 59, 3) := by decide +kernel
theorem dX6_must_24 : decode cX6_must 24 = .ok (.aload_n 0, 1) := by decide +kernel
theorem dX6_must_25 : decode cX6_must 25 = .ok (.dup, 1) := by decide +kernel
theorem dX6_must_26 : decode cX6_must 26 = .ok (.getfield 53, 3) := by decide +kernel
theorem dX6_must_29 : decode cX6_must 29 = .ok (.aload_n 0, 1) := by decide +kernel
theorem dX6_must_30 : decode cX6_must 30 = .ok (.getfield 59, 3) := by decide +kernel
theorem dX6_must_33 : decode cX6_must 33 = .ok (.ifCond .eq 7, 3) := by decide +kernel
theorem dX6_must_36 : decode cX6_must 36 = .ok (.iconst 0, 1) := by decide +kernel
theorem dX6_must_37 : decode cX6_must 37 = .ok (.goto 4, 3) := by decide +kernel
theorem dX6_must_40 : decode cX6_must 40 = .ok (.iconst 1, 1) := by decide +kernel
theorem dX6_must_41 : decode cX6_must 41 = .ok (.iadd, 1) := by decide +kernel
theorem dX6_must_42 : decode cX6_must 42 = .ok (.putfield 53, 3) := by decide +kernel
theorem dX6_must_45 : decode cX6_must 45 = .ok (.return_, 1) := by decide +kernel
theorem dX6_spells_0 : decode cX6_spells 0 = .ok (.iconst 0, 1) := by decide +kernel
theorem dX6_spells_1 : decode cX6_spells 1 = .ok (.istore_n 2, 1) := by decide +kernel
theorem dX6_spells_2 : decode cX6_spells 2 = .ok (.iload_n 2, 1) := by decide +kernel
theorem dX6_spells_3 : decode cX6_spells 3 = .ok (.aload_n 1, 1) := by decide +kernel
theorem dX6_spells_4 : decode cX6_spells 4 = .ok (.invokevirtual 66, 3) := by decide +kernel
theorem dX6_spells_7 : decode cX6_spells 7 = .ok (.if_icmp .ge 18, 3) := by decide +kernel
theorem dX6_spells_10 : decode cX6_spells 10 = .ok (.aload_n 0, 1) := by decide +kernel
theorem dX6_spells_11 : decode cX6_spells 11 = .ok (.aload_n 1, 1) := by decide +kernel
theorem dX6_spells_12 : decode cX6_spells 12 = .ok (.iload_n 2, 1) := by decide +kernel
theorem dX6_spells_13 : decode cX6_spells 13 = .ok (.invokevirtual 71, 3) := by decide +kernel
theorem dX6_spells_16 : decode cX6_spells 16 = .ok (.invokevirtual 75, 3) := by decide +kernel
theorem dX6_spells_19 : decode cX6_spells 19 = .ok (.iinc 2 1, 3) := by decide +kernel
theorem dX6_spells_22 : decode cX6_spells 22 = .ok (.goto (-20), 3) := by decide +kernel
theorem dX6_spells_25 : decode cX6_spells 25 = .ok (.return_, 1) := by decide +kernel
theorem dX6_figures_0 : decode cX6_figures 0 = .ok (.aload_n 0, 1) := by decide +kernel
theorem dX6_figures_1 : decode cX6_figures 1 = .ok (.aload_n 0, 1) := by decide +kernel
theorem dX6_figures_2 : decode cX6_figures 2 = .ok (.getfield 59, 3) := by decide +kernel
theorem dX6_figures_5 : decode cX6_figures 5 = .ok (.ifCond .ne 17, 3) := by decide +kernel
theorem dX6_figures_8 : decode cX6_figures 8 = .ok (.aload_n 0, 1) := by decide +kernel
theorem dX6_figures_9 : decode cX6_figures 9 = .ok (.invokevirtual 63, 3) := by decide +kernel
theorem dX6_figures_12 : decode cX6_figures 12 = .ok (.bipush 48, 2) := by decide +kernel
theorem dX6_figures_14 : decode cX6_figures 14 = .ok (.bipush 57, 2) := by decide +kernel
theorem dX6_figures_16 : decode cX6_figures 16 = .ok (.invokestatic 45, 3) := by decide +kernel
theorem dX6_figures_19 : decode cX6_figures 19 = .ok (.ifCond .ne 7, 3) := by decide +kernel
theorem dX6_figures_22 : decode cX6_figures 22 = .ok (.iconst 1, 1) := by decide +kernel
theorem dX6_figures_23 : decode cX6_figures 23 = .ok (.goto 4, 3) := by decide +kernel
theorem dX6_figures_26 : decode cX6_figures 26 = .ok (.iconst 0, 1) := by decide +kernel
theorem dX6_figures_27 : decode cX6_figures 27 = .ok (.putfield 59, 3) := by decide +kernel
theorem dX6_figures_30 : decode cX6_figures 30 = .ok (.iconst 0, 1) := by decide +kernel
theorem dX6_figures_31 : decode cX6_figures 31 = .ok (.istore_n 1, 1) := by decide +kernel
theorem dX6_figures_32 : decode cX6_figures 32 = .ok (.iconst 0, 1) := by decide +kernel
theorem dX6_figures_33 : decode cX6_figures 33 = .ok (.istore_n 2, 1) := by decide +kernel
theorem dX6_figures_34 : decode cX6_figures 34 = .ok (.iload_n 2, 1) := by decide +kernel
theorem dX6_figures_35 : decode cX6_figures 35 = .ok (.iconst 2, 1) := by decide +kernel
theorem dX6_figures_36 : decode cX6_figures 36 = .ok (.if_icmp .ge 61, 3) := by decide +kernel
theorem dX6_figures_39 : decode cX6_figures 39 = .ok (.aload_n 0, 1) := by decide +kernel
theorem dX6_figures_40 : decode cX6_figures 40 = .ok (.getfield 59, 3) := by decide +kernel
theorem dX6_figures_43 : decode cX6_figures 43 = .ok (.ifCond .ne 54, 3) := by decide +kernel
theorem dX6_figures_46 : decode cX6_figures 46 = .ok (.aload_n 0, 1) := by decide +kernel
theorem dX6_figures_47 : decode cX6_figures 47 = .ok (.invokevirtual 63, 3) := by decide +kernel
theorem dX6_figures_50 : decode cX6_figures 50 = .ok (.bipush 48, 2) := by decide +kernel
theorem dX6_figures_52 : decode cX6_figures 52 = .ok (.bipush 57, 2) := by decide +kernel
theorem dX6_figures_54 : decode cX6_figures 54 = .ok (.invokestatic 45, 3) := by decide +kernel
theorem dX6_figures_57 : decode cX6_figures 57 = .ok (.ifCond .eq 40, 3) := by decide +kernel
theorem dX6_figures_60 : decode cX6_figures 60 = .ok (.iload_n 2, 1) := by decide +kernel
theorem dX6_figures_61 : decode cX6_figures 61 = .ok (.ifCond .eq 7, 3) := by decide +kernel
theorem dX6_figures_64 : decode cX6_figures 64 = .ok (.iload_n 1, 1) := by decide +kernel
theorem dX6_figures_65 : decode cX6_figures 65 = .ok (.ifCond .le 32, 3) := by decide +kernel
theorem dX6_figures_68 : decode cX6_figures 68 = .ok (.bipush 10, 2) := by decide +kernel
theorem dX6_figures_70 : decode cX6_figures 70 = .ok (.iload_n 1, 1) := by decide +kernel
theorem dX6_figures_71 : decode cX6_figures 71 = .ok (.imul, 1) := by decide +kernel
theorem dX6_figures_72 : decode cX6_figures 72 = .ok (.aload_n 0, 1) := by decide +kernel
theorem dX6_figures_73 : decode cX6_figures 73 = .ok (.invokevirtual 63, 3) := by decide +kernel
theorem dX6_figures_76 : decode cX6_figures 76 = .ok (.iadd, 1) := by decide +kernel
theorem dX6_figures_77 : decode cX6_figures 77 = .ok (.bipush 48, 2) := by decide +kernel
theorem dX6_figures_79 : decode cX6_figures 79 = .ok (.isub, 1) := by decide +kernel
theorem dX6_figures_80 : decode cX6_figures 80 = .ok (.istore_n 1, 1) := by decide +kernel
theorem dX6_figures_81 : decode cX6_figures 81 = .ok (.aload_n 0, 1) := by decide +kernel
theorem dX6_figures_82 : decode cX6_figures 82 = .ok (.dup, 1) := by decide +kernel
theorem dX6_figures_83 : decode cX6_figures 83 = .ok (.getfield 53, 3) := by decide +kernel
theorem dX6_figures_86 : decode cX6_figures 86 = .ok (.iconst 1, 1) := by decide +kernel
theorem dX6_figures_87 : decode cX6_figures 87 = .ok (.iadd, 1) := by decide +kernel
theorem dX6_figures_88 : decode cX6_figures 88 = .ok (.putfield 53, 3) := by decide +kernel
theorem dX6_figures_91 : decode cX6_figures 91 = .ok (.iinc 2 1, 3) := by decide +kernel
theorem dX6_figures_94 : decode cX6_figures 94 = .ok (.goto (-60), 3) := by decide +kernel
theorem dX6_figures_97 : decode cX6_figures 97 = .ok (.iload_n 1, 1) := by decide +kernel
theorem dX6_figures_98 : decode cX6_figures 98 = .ok (.ireturn, 1) := by decide +kernel
theorem dX6_among_0 : decode cX6_among 0 = .ok (.iconst 0, 1) := by decide +kernel
theorem dX6_among_1 : decode cX6_among 1 = .ok (.istore_n 2, 1) := by decide +kernel
theorem dX6_among_2 : decode cX6_among 2 = .ok (.iload_n 2, 1) := by decide +kernel
theorem dX6_among_3 : decode cX6_among 3 = .ok (.aload_n 1, 1) := by decide +kernel
theorem dX6_among_4 : decode cX6_among 4 = .ok (.invokevirtual 66, 3) := by decide +kernel
theorem dX6_among_7 : decode cX6_among 7 = .ok (.if_icmp .ge 33, 3) := by decide +kernel
theorem dX6_among_10 : decode cX6_among 10 = .ok (.aload_n 0, 1) := by decide +kernel
theorem dX6_among_11 : decode cX6_among 11 = .ok (.invokevirtual 63, 3) := by decide +kernel
theorem dX6_among_14 : decode cX6_among 14 = .ok (.aload_n 1, 1) := by decide +kernel
theorem dX6_among_15 : decode cX6_among 15 = .ok (.iload_n 2, 1) := by decide +kernel
theorem dX6_among_16 : decode cX6_among 16 = .ok (.invokevirtual 71, 3) := by decide +kernel
theorem dX6_among_19 : decode cX6_among 19 = .ok (.if_icmp .ne 15, 3) := by decide +kernel
theorem dX6_among_22 : decode cX6_among 22 = .ok (.aload_n 0, 1) := by decide +kernel
theorem dX6_among_23 : decode cX6_among 23 = .ok (.dup, 1) := by decide +kernel
theorem dX6_among_24 : decode cX6_among 24 = .ok (.getfield 53, 3) := by decide +kernel
theorem dX6_among_27 : decode cX6_among 27 = .ok (.iconst 1, 1) := by decide +kernel
theorem dX6_among_28 : decode cX6_among 28 = .ok (.iadd, 1) := by decide +kernel
theorem dX6_among_29 : decode cX6_among 29 = .ok (.putfield 53, 3) := by decide +kernel
theorem dX6_among_32 : decode cX6_among 32 = .ok (.iload_n 2, 1) := by decide +kernel
theorem dX6_among_33 : decode cX6_among 33 = .ok (.ireturn, 1) := by decide +kernel
theorem dX6_among_34 : decode cX6_among 34 = .ok (.iinc 2 1, 3) := by decide +kernel
theorem dX6_among_37 : decode cX6_among 37 = .ok (.goto (-35), 3) := by decide +kernel
theorem dX6_among_40 : decode cX6_among 40 = .ok (.iconst (-1), 1) := by decide +kernel
theorem dX6_among_41 : decode cX6_among 41 = .ok (.ireturn, 1) := by decide +kernel
theorem dX6_emits_0 : decode cX6_emits 0 = .ok (.aload_n 0, 1) := by decide +kernel
theorem dX6_emits_1 : decode cX6_emits 1 = .ok (.getfield 59, 3) := by decide +kernel
theorem dX6_emits_4 : decode cX6_emits 4 = .ok (.ifCond .ne 52, 3) := by decide +kernel
theorem dX6_emits_7 : decode cX6_emits 7 = .ok (.aload_n 0, 1) := by decide +kernel
theorem dX6_emits_8 : decode cX6_emits 8 = .ok (.getfield 7, 3) := by decide +kernel
theorem dX6_emits_11 : decode cX6_emits 11 = .ok (.sipush 146, 3) := by decide +kernel
theorem dX6_emits_14 : decode cX6_emits 14 = .ok (.sipush 140, 3) := by decide +kernel
theorem dX6_emits_17 : decode cX6_emits 17 = .ok (.aload_n 0, 1) := by decide +kernel
theorem dX6_emits_18 : decode cX6_emits 18 = .ok (.getfield 79, 3) := by decide +kernel
theorem dX6_emits_21 : decode cX6_emits 21 = .ok (.imul, 1) := by decide +kernel
theorem dX6_emits_22 : decode cX6_emits 22 = .ok (.iadd, 1) := by decide +kernel
theorem dX6_emits_23 : decode cX6_emits 23 = .ok (.aload_n 0, 1) := by decide +kernel
theorem dX6_emits_24 : decode cX6_emits 24 = .ok (.getfield 7, 3) := by decide +kernel
theorem dX6_emits_27 : decode cX6_emits 27 = .ok (.sipush 141, 3) := by decide +kernel
theorem dX6_emits_30 : decode cX6_emits 30 = .ok (.aload_n 0, 1) := by decide +kernel
theorem dX6_emits_31 : decode cX6_emits 31 = .ok (.getfield 79, 3) := by decide +kernel
theorem dX6_emits_34 : decode cX6_emits 34 = .ok (.iadd, 1) := by decide +kernel
theorem dX6_emits_35 : decode cX6_emits 35 = .ok (.iaload, 1) := by decide +kernel
theorem dX6_emits_36 : decode cX6_emits 36 = .ok (.iadd, 1) := by decide +kernel
theorem dX6_emits_37 : decode cX6_emits 37 = .ok (.iload_n 1, 1) := by decide +kernel
theorem dX6_emits_38 : decode cX6_emits 38 = .ok (.iastore, 1) := by decide +kernel
theorem dX6_emits_39 : decode cX6_emits 39 = .ok (.aload_n 0, 1) := by decide +kernel
theorem dX6_emits_40 : decode cX6_emits 40 = .ok (.getfield 7, 3) := by decide +kernel
theorem dX6_emits_43 : decode cX6_emits 43 = .ok (.sipush 141, 3) := by decide +kernel
theorem dX6_emits_46 : decode cX6_emits 46 = .ok (.aload_n 0, 1) := by decide +kernel
theorem dX6_emits_47 : decode cX6_emits 47 = .ok (.getfield 79, 3) := by decide +kernel
theorem dX6_emits_50 : decode cX6_emits 50 = .ok (.iadd, 1) := by decide +kernel
theorem dX6_emits_51 : decode cX6_emits 51 = .ok (.dup2, 1) := by decide +kernel
theorem dX6_emits_52 : decode cX6_emits 52 = .ok (.iaload, 1) := by decide +kernel
theorem dX6_emits_53 : decode cX6_emits 53 = .ok (.iconst 1, 1) := by decide +kernel
theorem dX6_emits_54 : decode cX6_emits 54 = .ok (.iadd, 1) := by decide +kernel
theorem dX6_emits_55 : decode cX6_emits 55 = .ok (.iastore, 1) := by decide +kernel
theorem dX6_emits_56 : decode cX6_emits 56 = .ok (.return_, 1) := by decide +kernel
theorem dX6_factor_0 : decode cX6_factor 0 = .ok (.aload_n 0, 1) := by decide +kernel
theorem dX6_factor_1 : decode cX6_factor 1 = .ok (.getfield 59, 3) := by decide +kernel
theorem dX6_factor_4 : decode cX6_factor 4 = .ok (.ifCond .eq 4, 3) := by decide +kernel
theorem dX6_factor_7 : decode cX6_factor 7 = .ok (.return_, 1) := by decide +kernel
theorem dX6_factor_8 : decode cX6_factor 8 = .ok (.aload_n 0, 1) := by decide +kernel
theorem dX6_factor_9 : decode cX6_factor 9 = .ok (.invokevirtual 63, 3) := by decide +kernel
theorem dX6_factor_12 : decode cX6_factor 12 = .ok (.istore_n 1, 1) := by decide +kernel
theorem dX6_factor_13 : decode cX6_factor 13 = .ok (.iload_n 1, 1) := by decide +kernel
theorem dX6_factor_14 : decode cX6_factor 14 = .ok (.bipush 33, 2) := by decide +kernel
theorem dX6_factor_16 : decode cX6_factor 16 = .ok (.if_icmp .eq 9, 3) := by decide +kernel
theorem dX6_factor_19 : decode cX6_factor 19 = .ok (.iload_n 1, 1) := by decide +kernel
theorem dX6_factor_20 : decode cX6_factor 20 = .ok (.bipush 40, 2) := by decide +kernel
theorem dX6_factor_22 : decode cX6_factor 22 = .ok (.if_icmp .ne 90, 3) := by decide +kernel
theorem dX6_factor_25 : decode cX6_factor 25 = .ok (.aload_n 0, 1) := by decide +kernel
theorem dX6_factor_26 : decode cX6_factor 26 = .ok (.aload_n 0, 1) := by decide +kernel
theorem dX6_factor_27 : decode cX6_factor 27 = .ok (.getfield 82, 3) := by decide +kernel
theorem dX6_factor_30 : decode cX6_factor 30 = .ok (.iconst 5, 1) := by decide +kernel
theorem dX6_factor_31 : decode cX6_factor 31 = .ok (.if_icmp .ne 7, 3) := by decide +kernel
theorem dX6_factor_34 : decode cX6_factor 34 = .ok (.iconst 1, 1) := by decide +kernel
theorem dX6_factor_35 : decode cX6_factor 35 = .ok (.goto 4, 3) := by decide +kernel
theorem dX6_factor_38 : decode cX6_factor 38 = .ok (.iconst 0, 1) := by decide +kernel
theorem dX6_factor_39 : decode cX6_factor 39 = .ok (.putfield 59, 3) := by decide +kernel
theorem dX6_factor_42 : decode cX6_factor 42 = .ok (.aload_n 0, 1) := by decide +kernel
theorem dX6_factor_43 : decode cX6_factor 43 = .ok (.dup, 1) := by decide +kernel
theorem dX6_factor_44 : decode cX6_factor 44 = .ok (.getfield 82, 3) := by decide +kernel
theorem dX6_factor_47 : decode cX6_factor 47 = .ok (.iconst 1, 1) := by decide +kernel
theorem dX6_factor_48 : decode cX6_factor 48 = .ok (.iadd, 1) := by decide +kernel
theorem dX6_factor_49 : decode cX6_factor 49 = .ok (.putfield 82, 3) := by decide +kernel
theorem dX6_factor_52 : decode cX6_factor 52 = .ok (.aload_n 0, 1) := by decide +kernel
theorem dX6_factor_53 : decode cX6_factor 53 = .ok (.dup, 1) := by decide +kernel
theorem dX6_factor_54 : decode cX6_factor 54 = .ok (.getfield 53, 3) := by decide +kernel
theorem dX6_factor_57 : decode cX6_factor 57 = .ok (.aload_n 0, 1) := by decide +kernel
theorem dX6_factor_58 : decode cX6_factor 58 = .ok (.getfield 59, 3) := by decide +kernel
theorem dX6_factor_61 : decode cX6_factor 61 = .ok (.ifCond .eq 7, 3) := by decide +kernel
theorem dX6_factor_64 : decode cX6_factor 64 = .ok (.iconst 0, 1) := by decide +kernel
theorem dX6_factor_65 : decode cX6_factor 65 = .ok (.goto 4, 3) := by decide +kernel
theorem dX6_factor_68 : decode cX6_factor 68 = .ok (.iconst 1, 1) := by decide +kernel
theorem dX6_factor_69 : decode cX6_factor 69 = .ok (.iadd, 1) := by decide +kernel
theorem dX6_factor_70 : decode cX6_factor 70 = .ok (.putfield 53, 3) := by decide +kernel
theorem dX6_factor_73 : decode cX6_factor 73 = .ok (.iload_n 1, 1) := by decide +kernel
theorem dX6_factor_74 : decode cX6_factor 74 = .ok (.bipush 33, 2) := by decide +kernel
theorem dX6_factor_76 : decode cX6_factor 76 = .ok (.if_icmp .ne 15, 3) := by decide +kernel
theorem dX6_factor_79 : decode cX6_factor 79 = .ok (.aload_n 0, 1) := by decide +kernel
theorem dX6_factor_80 : decode cX6_factor 80 = .ok (.invokevirtual 85, 3) := by decide +kernel
theorem dX6_factor_83 : decode cX6_factor 83 = .ok (.aload_n 0, 1) := by decide +kernel
theorem dX6_factor_84 : decode cX6_factor 84 = .ok (.iconst (-1), 1) := by decide +kernel
theorem dX6_factor_85 : decode cX6_factor 85 = .ok (.invokevirtual 88, 3) := by decide +kernel
theorem dX6_factor_88 : decode cX6_factor 88 = .ok (.goto 13, 3) := by decide +kernel
theorem dX6_factor_91 : decode cX6_factor 91 = .ok (.aload_n 0, 1) := by decide +kernel
theorem dX6_factor_92 : decode cX6_factor 92 = .ok (.invokevirtual 91, 3) := by decide +kernel
theorem dX6_factor_95 : decode cX6_factor 95 = .ok (.aload_n 0, 1) := by decide +kernel
theorem dX6_factor_96 : decode cX6_factor 96 = .ok (.bipush 41, 2) := by decide +kernel
theorem dX6_factor_98 : decode cX6_factor 98 = .ok (.invokevirtual 75, 3) := by decide +kernel
theorem dX6_factor_101 : decode cX6_factor 101 = .ok (.aload_n 0, 1) := by decide +kernel
theorem dX6_factor_102 : decode cX6_factor 102 = .ok (.dup, 1) := by decide +kernel
theorem dX6_factor_103 : decode cX6_factor 103 = .ok (.getfield 82, 3) := by decide +kernel
theorem dX6_factor_106 : decode cX6_factor 106 = .ok (.iconst 1, 1) := by decide +kernel
theorem dX6_factor_107 : decode cX6_factor 107 = .ok (.isub, 1) := by decide +kernel
theorem dX6_factor_108 : decode cX6_factor 108 = .ok (.putfield 82, 3) := by decide +kernel
theorem dX6_factor_111 : decode cX6_factor 111 = .ok (.return_, 1) := by decide +kernel
theorem dX6_factor_112 : decode cX6_factor 112 = .ok (.aload_n 0, 1) := by decide +kernel
theorem dX6_factor_113 : decode cX6_factor 113 = .ok (.ldc 94, 2) := by decide +kernel
theorem dX6_factor_115 : decode cX6_factor 115 = .ok (.invokevirtual 96, 3) := by decide +kernel
theorem dX6_factor_118 : decode cX6_factor 118 = .ok (.istore_n 2, 1) := by decide +kernel
theorem dX6_factor_119 : decode cX6_factor 119 = .ok (.aload_n 0, 1) := by decide +kernel
theorem dX6_factor_120 : decode cX6_factor 120 = .ok (.iload_n 2, 1) := by decide +kernel
theorem dX6_factor_121 : decode cX6_factor 121 = .ok (.iconst (-1), 1) := by decide +kernel
theorem dX6_factor_122 : decode cX6_factor 122 = .ok (.if_icmp .ne 7, 3) := by decide +kernel
theorem dX6_factor_125 : decode cX6_factor 125 = .ok (.iconst 1, 1) := by decide +kernel
theorem dX6_factor_126 : decode cX6_factor 126 = .ok (.goto 4, 3) := by decide +kernel
theorem dX6_factor_129 : decode cX6_factor 129 = .ok (.iconst 0, 1) := by decide +kernel
theorem dX6_factor_130 : decode cX6_factor 130 = .ok (.putfield 59, 3) := by decide +kernel
theorem dX6_factor_133 : decode cX6_factor 133 = .ok (.aload_n 0, 1) := by decide +kernel
theorem dX6_factor_134 : decode cX6_factor 134 = .ok (.getfield 59, 3) := by decide +kernel
theorem dX6_factor_137 : decode cX6_factor 137 = .ok (.ifCond .eq 7, 3) := by decide +kernel
theorem dX6_factor_140 : decode cX6_factor 140 = .ok (.iconst 0, 1) := by decide +kernel
theorem dX6_factor_141 : decode cX6_factor 141 = .ok (.goto 9, 3) := by decide +kernel
theorem dX6_factor_144 : decode cX6_factor 144 = .ok (.aload_n 0, 1) := by decide +kernel
theorem dX6_factor_145 : decode cX6_factor 145 = .ok (.ldc 100, 2) := by decide +kernel
theorem dX6_factor_147 : decode cX6_factor 147 = .ok (.invokevirtual 96, 3) := by decide +kernel
theorem dX6_factor_150 : decode cX6_factor 150 = .ok (.istore_n 3, 1) := by decide +kernel
theorem dX6_factor_151 : decode cX6_factor 151 = .ok (.aload_n 0, 1) := by decide +kernel
theorem dX6_factor_152 : decode cX6_factor 152 = .ok (.aload_n 0, 1) := by decide +kernel
theorem dX6_factor_153 : decode cX6_factor 153 = .ok (.getfield 59, 3) := by decide +kernel
theorem dX6_factor_156 : decode cX6_factor 156 = .ok (.ifCond .ne 8, 3) := by decide +kernel
theorem dX6_factor_159 : decode cX6_factor 159 = .ok (.iload_n 3, 1) := by decide +kernel
theorem dX6_factor_160 : decode cX6_factor 160 = .ok (.iconst (-1), 1) := by decide +kernel
theorem dX6_factor_161 : decode cX6_factor 161 = .ok (.if_icmp .ne 7, 3) := by decide +kernel
theorem dX6_factor_164 : decode cX6_factor 164 = .ok (.iconst 1, 1) := by decide +kernel
theorem dX6_factor_165 : decode cX6_factor 165 = .ok (.goto 4, 3) := by decide +kernel
theorem dX6_factor_168 : decode cX6_factor 168 = .ok (.iconst 0, 1) := by decide +kernel
theorem dX6_factor_169 : decode cX6_factor 169 = .ok (.putfield 59, 3) := by decide +kernel
theorem dX6_factor_172 : decode cX6_factor 172 = .ok (.aload_n 0, 1) := by decide +kernel
theorem dX6_factor_173 : decode cX6_factor 173 = .ok (.invokevirtual 102, 3) := by decide +kernel
theorem dX6_factor_176 : decode cX6_factor 176 = .ok (.istore 4, 2) := by decide +kernel
theorem dX6_factor_178 : decode cX6_factor 178 = .ok (.aload_n 0, 1) := by decide +kernel
theorem dX6_factor_179 : decode cX6_factor 179 = .ok (.iload_n 2, 1) := by decide +kernel
theorem dX6_factor_180 : decode cX6_factor 180 = .ok (.bipush 8, 2) := by decide +kernel
theorem dX6_factor_182 : decode cX6_factor 182 = .ok (.iload_n 3, 1) := by decide +kernel
theorem dX6_factor_183 : decode cX6_factor 183 = .ok (.imul, 1) := by decide +kernel
theorem dX6_factor_184 : decode cX6_factor 184 = .ok (.iadd, 1) := by decide +kernel
theorem dX6_factor_185 : decode cX6_factor 185 = .ok (.bipush 32, 2) := by decide +kernel
theorem dX6_factor_187 : decode cX6_factor 187 = .ok (.iload 4, 2) := by decide +kernel
theorem dX6_factor_189 : decode cX6_factor 189 = .ok (.imul, 1) := by decide +kernel
theorem dX6_factor_190 : decode cX6_factor 190 = .ok (.iadd, 1) := by decide +kernel
theorem dX6_factor_191 : decode cX6_factor 191 = .ok (.invokevirtual 88, 3) := by decide +kernel
theorem dX6_factor_194 : decode cX6_factor 194 = .ok (.return_, 1) := by decide +kernel
theorem dX6_every_0 : decode cX6_every 0 = .ok (.aload_n 0, 1) := by decide +kernel
theorem dX6_every_1 : decode cX6_every 1 = .ok (.invokevirtual 85, 3) := by decide +kernel
theorem dX6_every_4 : decode cX6_every 4 = .ok (.aload_n 0, 1) := by decide +kernel
theorem dX6_every_5 : decode cX6_every 5 = .ok (.getfield 59, 3) := by decide +kernel
theorem dX6_every_8 : decode cX6_every 8 = .ok (.ifCond .ne 35, 3) := by decide +kernel
theorem dX6_every_11 : decode cX6_every 11 = .ok (.aload_n 0, 1) := by decide +kernel
theorem dX6_every_12 : decode cX6_every 12 = .ok (.invokevirtual 63, 3) := by decide +kernel
theorem dX6_every_15 : decode cX6_every 15 = .ok (.bipush 38, 2) := by decide +kernel
theorem dX6_every_17 : decode cX6_every 17 = .ok (.if_icmp .ne 26, 3) := by decide +kernel
theorem dX6_every_20 : decode cX6_every 20 = .ok (.aload_n 0, 1) := by decide +kernel
theorem dX6_every_21 : decode cX6_every 21 = .ok (.dup, 1) := by decide +kernel
theorem dX6_every_22 : decode cX6_every 22 = .ok (.getfield 53, 3) := by decide +kernel
theorem dX6_every_25 : decode cX6_every 25 = .ok (.iconst 1, 1) := by decide +kernel
theorem dX6_every_26 : decode cX6_every 26 = .ok (.iadd, 1) := by decide +kernel
theorem dX6_every_27 : decode cX6_every 27 = .ok (.putfield 53, 3) := by decide +kernel
theorem dX6_every_30 : decode cX6_every 30 = .ok (.aload_n 0, 1) := by decide +kernel
theorem dX6_every_31 : decode cX6_every 31 = .ok (.invokevirtual 85, 3) := by decide +kernel
theorem dX6_every_34 : decode cX6_every 34 = .ok (.aload_n 0, 1) := by decide +kernel
theorem dX6_every_35 : decode cX6_every 35 = .ok (.bipush (-2), 2) := by decide +kernel
theorem dX6_every_37 : decode cX6_every 37 = .ok (.invokevirtual 88, 3) := by decide +kernel
theorem dX6_every_40 : decode cX6_every 40 = .ok (.goto (-36), 3) := by decide +kernel
theorem dX6_every_43 : decode cX6_every 43 = .ok (.return_, 1) := by decide +kernel
theorem dX6_some_0 : decode cX6_some 0 = .ok (.aload_n 0, 1) := by decide +kernel
theorem dX6_some_1 : decode cX6_some 1 = .ok (.invokevirtual 105, 3) := by decide +kernel
theorem dX6_some_4 : decode cX6_some 4 = .ok (.aload_n 0, 1) := by decide +kernel
theorem dX6_some_5 : decode cX6_some 5 = .ok (.getfield 59, 3) := by decide +kernel
theorem dX6_some_8 : decode cX6_some 8 = .ok (.ifCond .ne 35, 3) := by decide +kernel
theorem dX6_some_11 : decode cX6_some 11 = .ok (.aload_n 0, 1) := by decide +kernel
theorem dX6_some_12 : decode cX6_some 12 = .ok (.invokevirtual 63, 3) := by decide +kernel
theorem dX6_some_15 : decode cX6_some 15 = .ok (.bipush 124, 2) := by decide +kernel
theorem dX6_some_17 : decode cX6_some 17 = .ok (.if_icmp .ne 26, 3) := by decide +kernel
theorem dX6_some_20 : decode cX6_some 20 = .ok (.aload_n 0, 1) := by decide +kernel
theorem dX6_some_21 : decode cX6_some 21 = .ok (.dup, 1) := by decide +kernel
theorem dX6_some_22 : decode cX6_some 22 = .ok (.getfield 53, 3) := by decide +kernel
theorem dX6_some_25 : decode cX6_some 25 = .ok (.iconst 1, 1) := by decide +kernel
theorem dX6_some_26 : decode cX6_some 26 = .ok (.iadd, 1) := by decide +kernel
theorem dX6_some_27 : decode cX6_some 27 = .ok (.putfield 53, 3) := by decide +kernel
theorem dX6_some_30 : decode cX6_some 30 = .ok (.aload_n 0, 1) := by decide +kernel
theorem dX6_some_31 : decode cX6_some 31 = .ok (.invokevirtual 105, 3) := by decide +kernel
theorem dX6_some_34 : decode cX6_some 34 = .ok (.aload_n 0, 1) := by decide +kernel
theorem dX6_some_35 : decode cX6_some 35 = .ok (.bipush (-3), 2) := by decide +kernel
theorem dX6_some_37 : decode cX6_some 37 = .ok (.invokevirtual 88, 3) := by decide +kernel
theorem dX6_some_40 : decode cX6_some 40 = .ok (.goto (-36), 3) := by decide +kernel
theorem dX6_some_43 : decode cX6_some 43 = .ok (.return_, 1) := by decide +kernel
theorem dX6_much_0 : decode cX6_much 0 = .ok (.aload_n 0, 1) := by decide +kernel
theorem dX6_much_1 : decode cX6_much 1 = .ok (.aload_n 2, 1) := by decide +kernel
theorem dX6_much_2 : decode cX6_much 2 = .ok (.invokevirtual 108, 3) := by decide +kernel
theorem dX6_much_5 : decode cX6_much 5 = .ok (.aload_n 0, 1) := by decide +kernel
theorem dX6_much_6 : decode cX6_much 6 = .ok (.invokevirtual 102, 3) := by decide +kernel
theorem dX6_much_9 : decode cX6_much 9 = .ok (.istore_n 3, 1) := by decide +kernel
theorem dX6_much_10 : decode cX6_much 10 = .ok (.aload_n 0, 1) := by decide +kernel
theorem dX6_much_11 : decode cX6_much 11 = .ok (.bipush 32, 2) := by decide +kernel
theorem dX6_much_13 : decode cX6_much 13 = .ok (.invokevirtual 75, 3) := by decide +kernel
theorem dX6_much_16 : decode cX6_much 16 = .ok (.aload_n 0, 1) := by decide +kernel
theorem dX6_much_17 : decode cX6_much 17 = .ok (.invokevirtual 91, 3) := by decide +kernel
theorem dX6_much_20 : decode cX6_much 20 = .ok (.aload_n 0, 1) := by decide +kernel
theorem dX6_much_21 : decode cX6_much 21 = .ok (.iload_n 1, 1) := by decide +kernel
theorem dX6_much_22 : decode cX6_much 22 = .ok (.iload_n 3, 1) := by decide +kernel
theorem dX6_much_23 : decode cX6_much 23 = .ok (.isub, 1) := by decide +kernel
theorem dX6_much_24 : decode cX6_much 24 = .ok (.invokevirtual 88, 3) := by decide +kernel
theorem dX6_much_27 : decode cX6_much 27 = .ok (.return_, 1) := by decide +kernel
theorem dX6_clauseHere_0 : decode cX6_clauseHere 0 = .ok (.aload_n 0, 1) := by decide +kernel
theorem dX6_clauseHere_1 : decode cX6_clauseHere 1 = .ok (.invokevirtual 63, 3) := by decide +kernel
theorem dX6_clauseHere_4 : decode cX6_clauseHere 4 = .ok (.lookupswitch 94 #[(103, 36), (104, 47), (110, 59)], 36) := by decide +kernel
theorem dX6_clauseHere_40 : decode cX6_clauseHere 40 = .ok (.aload_n 0, 1) := by decide +kernel
theorem dX6_clauseHere_41 : decode cX6_clauseHere 41 = .ok (.bipush (-10), 2) := by decide +kernel
theorem dX6_clauseHere_43 : decode cX6_clauseHere 43 = .ok (.ldc 112, 2) := by decide +kernel
theorem dX6_clauseHere_45 : decode cX6_clauseHere 45 = .ok (.invokevirtual 114, 3) := by decide +kernel
theorem dX6_clauseHere_48 : decode cX6_clauseHere 48 = .ok (.goto 55, 3) := by decide +kernel
theorem dX6_clauseHere_51 : decode cX6_clauseHere 51 = .ok (.aload_n 0, 1) := by decide +kernel
theorem dX6_clauseHere_52 : decode cX6_clauseHere 52 = .ok (.sipush (-200), 3) := by decide +kernel
theorem dX6_clauseHere_55 : decode cX6_clauseHere 55 = .ok (.ldc 118, 2) := by decide +kernel
theorem dX6_clauseHere_57 : decode cX6_clauseHere 57 = .ok (.invokevirtual 114, 3) := by decide +kernel
theorem dX6_clauseHere_60 : decode cX6_clauseHere 60 = .ok (.goto 43, 3) := by decide +kernel
theorem dX6_clauseHere_63 : decode cX6_clauseHere 63 = .ok (.aload_n 0, 1) := by decide +kernel
theorem dX6_clauseHere_64 : decode cX6_clauseHere 64 = .ok (.ldc 120, 2) := by decide +kernel
theorem dX6_clauseHere_66 : decode cX6_clauseHere 66 = .ok (.invokevirtual 108, 3) := by decide +kernel
theorem dX6_clauseHere_69 : decode cX6_clauseHere 69 = .ok (.aload_n 0, 1) := by decide +kernel
theorem dX6_clauseHere_70 : decode cX6_clauseHere 70 = .ok (.invokevirtual 102, 3) := by decide +kernel
theorem dX6_clauseHere_73 : decode cX6_clauseHere 73 = .ok (.istore_n 1, 1) := by decide +kernel
theorem dX6_clauseHere_74 : decode cX6_clauseHere 74 = .ok (.aload_n 0, 1) := by decide +kernel
theorem dX6_clauseHere_75 : decode cX6_clauseHere 75 = .ok (.getfield 59, 3) := by decide +kernel
theorem dX6_clauseHere_78 : decode cX6_clauseHere 78 = .ok (.ifCond .ne 25, 3) := by decide +kernel
theorem dX6_clauseHere_81 : decode cX6_clauseHere 81 = .ok (.aload_n 0, 1) := by decide +kernel
theorem dX6_clauseHere_82 : decode cX6_clauseHere 82 = .ok (.getfield 7, 3) := by decide +kernel
theorem dX6_clauseHere_85 : decode cX6_clauseHere 85 = .ok (.sipush 136, 3) := by decide +kernel
theorem dX6_clauseHere_88 : decode cX6_clauseHere 88 = .ok (.aload_n 0, 1) := by decide +kernel
theorem dX6_clauseHere_89 : decode cX6_clauseHere 89 = .ok (.getfield 79, 3) := by decide +kernel
theorem dX6_clauseHere_92 : decode cX6_clauseHere 92 = .ok (.iadd, 1) := by decide +kernel
theorem dX6_clauseHere_93 : decode cX6_clauseHere 93 = .ok (.iload_n 1, 1) := by decide +kernel
theorem dX6_clauseHere_94 : decode cX6_clauseHere 94 = .ok (.iastore, 1) := by decide +kernel
theorem dX6_clauseHere_95 : decode cX6_clauseHere 95 = .ok (.goto 8, 3) := by decide +kernel
theorem dX6_clauseHere_98 : decode cX6_clauseHere 98 = .ok (.aload_n 0, 1) := by decide +kernel
theorem dX6_clauseHere_99 : decode cX6_clauseHere 99 = .ok (.iconst 1, 1) := by decide +kernel
theorem dX6_clauseHere_100 : decode cX6_clauseHere 100 = .ok (.putfield 59, 3) := by decide +kernel
theorem dX6_clauseHere_103 : decode cX6_clauseHere 103 = .ok (.return_, 1) := by decide +kernel
theorem dX6_town_0 : decode cX6_town 0 = .ok (.aload_n 0, 1) := by decide +kernel
theorem dX6_town_1 : decode cX6_town 1 = .ok (.getfield 7, 3) := by decide +kernel
theorem dX6_town_4 : decode cX6_town 4 = .ok (.iconst 1, 1) := by decide +kernel
theorem dX6_town_5 : decode cX6_town 5 = .ok (.iaload, 1) := by decide +kernel
theorem dX6_town_6 : decode cX6_town 6 = .ok (.iconst 5, 1) := by decide +kernel
theorem dX6_town_7 : decode cX6_town 7 = .ok (.if_icmp .ne 6, 3) := by decide +kernel
theorem dX6_town_10 : decode cX6_town 10 = .ok (.bipush (-4), 2) := by decide +kernel
theorem dX6_town_12 : decode cX6_town 12 = .ok (.ireturn, 1) := by decide +kernel
theorem dX6_town_13 : decode cX6_town 13 = .ok (.aload_n 0, 1) := by decide +kernel
theorem dX6_town_14 : decode cX6_town 14 = .ok (.aload_n 0, 1) := by decide +kernel
theorem dX6_town_15 : decode cX6_town 15 = .ok (.getfield 7, 3) := by decide +kernel
theorem dX6_town_18 : decode cX6_town 18 = .ok (.iconst 1, 1) := by decide +kernel
theorem dX6_town_19 : decode cX6_town 19 = .ok (.iaload, 1) := by decide +kernel
theorem dX6_town_20 : decode cX6_town 20 = .ok (.putfield 79, 3) := by decide +kernel
theorem dX6_town_23 : decode cX6_town 23 = .ok (.aload_n 0, 1) := by decide +kernel
theorem dX6_town_24 : decode cX6_town 24 = .ok (.aload_n 0, 1) := by decide +kernel
theorem dX6_town_25 : decode cX6_town 25 = .ok (.getfield 7, 3) := by decide +kernel
theorem dX6_town_28 : decode cX6_town 28 = .ok (.iconst 3, 1) := by decide +kernel
theorem dX6_town_29 : decode cX6_town 29 = .ok (.iaload, 1) := by decide +kernel
theorem dX6_town_30 : decode cX6_town 30 = .ok (.putfield 56, 3) := by decide +kernel
theorem dX6_town_33 : decode cX6_town 33 = .ok (.aload_n 0, 1) := by decide +kernel
theorem dX6_town_34 : decode cX6_town 34 = .ok (.getfield 7, 3) := by decide +kernel
theorem dX6_town_37 : decode cX6_town 37 = .ok (.iconst 3, 1) := by decide +kernel
theorem dX6_town_38 : decode cX6_town 38 = .ok (.iconst 0, 1) := by decide +kernel
theorem dX6_town_39 : decode cX6_town 39 = .ok (.iastore, 1) := by decide +kernel
theorem dX6_town_40 : decode cX6_town 40 = .ok (.aload_n 0, 1) := by decide +kernel
theorem dX6_town_41 : decode cX6_town 41 = .ok (.getfield 7, 3) := by decide +kernel
theorem dX6_town_44 : decode cX6_town 44 = .ok (.sipush 136, 3) := by decide +kernel
theorem dX6_town_47 : decode cX6_town 47 = .ok (.aload_n 0, 1) := by decide +kernel
theorem dX6_town_48 : decode cX6_town 48 = .ok (.getfield 79, 3) := by decide +kernel
theorem dX6_town_51 : decode cX6_town 51 = .ok (.iadd, 1) := by decide +kernel
theorem dX6_town_52 : decode cX6_town 52 = .ok (.iconst 0, 1) := by decide +kernel
theorem dX6_town_53 : decode cX6_town 53 = .ok (.iastore, 1) := by decide +kernel
theorem dX6_town_54 : decode cX6_town 54 = .ok (.aload_n 0, 1) := by decide +kernel
theorem dX6_town_55 : decode cX6_town 55 = .ok (.getfield 7, 3) := by decide +kernel
theorem dX6_town_58 : decode cX6_town 58 = .ok (.sipush 141, 3) := by decide +kernel
theorem dX6_town_61 : decode cX6_town 61 = .ok (.aload_n 0, 1) := by decide +kernel
theorem dX6_town_62 : decode cX6_town 62 = .ok (.getfield 79, 3) := by decide +kernel
theorem dX6_town_65 : decode cX6_town 65 = .ok (.iadd, 1) := by decide +kernel
theorem dX6_town_66 : decode cX6_town 66 = .ok (.iconst 0, 1) := by decide +kernel
theorem dX6_town_67 : decode cX6_town 67 = .ok (.iastore, 1) := by decide +kernel
theorem dX6_town_68 : decode cX6_town 68 = .ok (.aload_n 0, 1) := by decide +kernel
theorem dX6_town_69 : decode cX6_town 69 = .ok (.iconst 0, 1) := by decide +kernel
theorem dX6_town_70 : decode cX6_town 70 = .ok (.putfield 53, 3) := by decide +kernel
theorem dX6_town_73 : decode cX6_town 73 = .ok (.aload_n 0, 1) := by decide +kernel
theorem dX6_town_74 : decode cX6_town 74 = .ok (.iconst 0, 1) := by decide +kernel
theorem dX6_town_75 : decode cX6_town 75 = .ok (.putfield 59, 3) := by decide +kernel
theorem dX6_town_78 : decode cX6_town 78 = .ok (.aload_n 0, 1) := by decide +kernel
theorem dX6_town_79 : decode cX6_town 79 = .ok (.iconst 0, 1) := by decide +kernel
theorem dX6_town_80 : decode cX6_town 80 = .ok (.putfield 82, 3) := by decide +kernel
theorem dX6_town_83 : decode cX6_town 83 = .ok (.iconst 1, 1) := by decide +kernel
theorem dX6_town_84 : decode cX6_town 84 = .ok (.istore_n 1, 1) := by decide +kernel
theorem dX6_town_85 : decode cX6_town 85 = .ok (.aload_n 0, 1) := by decide +kernel
theorem dX6_town_86 : decode cX6_town 86 = .ok (.invokevirtual 122, 3) := by decide +kernel
theorem dX6_town_89 : decode cX6_town 89 = .ok (.aload_n 0, 1) := by decide +kernel
theorem dX6_town_90 : decode cX6_town 90 = .ok (.getfield 59, 3) := by decide +kernel
theorem dX6_town_93 : decode cX6_town 93 = .ok (.ifCond .ne 38, 3) := by decide +kernel
theorem dX6_town_96 : decode cX6_town 96 = .ok (.iload_n 1, 1) := by decide +kernel
theorem dX6_town_97 : decode cX6_town 97 = .ok (.bipush 8, 2) := by decide +kernel
theorem dX6_town_99 : decode cX6_town 99 = .ok (.if_icmp .ge 32, 3) := by decide +kernel
theorem dX6_town_102 : decode cX6_town 102 = .ok (.aload_n 0, 1) := by decide +kernel
theorem dX6_town_103 : decode cX6_town 103 = .ok (.invokevirtual 63, 3) := by decide +kernel
theorem dX6_town_106 : decode cX6_town 106 = .ok (.bipush 59, 2) := by decide +kernel
theorem dX6_town_108 : decode cX6_town 108 = .ok (.if_icmp .ne 23, 3) := by decide +kernel
theorem dX6_town_111 : decode cX6_town 111 = .ok (.aload_n 0, 1) := by decide +kernel
theorem dX6_town_112 : decode cX6_town 112 = .ok (.dup, 1) := by decide +kernel
theorem dX6_town_113 : decode cX6_town 113 = .ok (.getfield 53, 3) := by decide +kernel
theorem dX6_town_116 : decode cX6_town 116 = .ok (.iconst 1, 1) := by decide +kernel
theorem dX6_town_117 : decode cX6_town 117 = .ok (.iadd, 1) := by decide +kernel
theorem dX6_town_118 : decode cX6_town 118 = .ok (.putfield 53, 3) := by decide +kernel
theorem dX6_town_121 : decode cX6_town 121 = .ok (.aload_n 0, 1) := by decide +kernel
theorem dX6_town_122 : decode cX6_town 122 = .ok (.invokevirtual 122, 3) := by decide +kernel
theorem dX6_town_125 : decode cX6_town 125 = .ok (.iinc 1 1, 3) := by decide +kernel
theorem dX6_town_128 : decode cX6_town 128 = .ok (.goto (-39), 3) := by decide +kernel
theorem dX6_town_131 : decode cX6_town 131 = .ok (.aload_n 0, 1) := by decide +kernel
theorem dX6_town_132 : decode cX6_town 132 = .ok (.getfield 59, 3) := by decide +kernel
theorem dX6_town_135 : decode cX6_town 135 = .ok (.ifCond .ne 14, 3) := by decide +kernel
theorem dX6_town_138 : decode cX6_town 138 = .ok (.aload_n 0, 1) := by decide +kernel
theorem dX6_town_139 : decode cX6_town 139 = .ok (.getfield 53, 3) := by decide +kernel
theorem dX6_town_142 : decode cX6_town 142 = .ok (.aload_n 0, 1) := by decide +kernel
theorem dX6_town_143 : decode cX6_town 143 = .ok (.getfield 56, 3) := by decide +kernel
theorem dX6_town_146 : decode cX6_town 146 = .ok (.if_icmp .eq 11, 3) := by decide +kernel
theorem dX6_town_149 : decode cX6_town 149 = .ok (.bipush (-10), 2) := by decide +kernel
theorem dX6_town_151 : decode cX6_town 151 = .ok (.aload_n 0, 1) := by decide +kernel
theorem dX6_town_152 : decode cX6_town 152 = .ok (.getfield 53, 3) := by decide +kernel
theorem dX6_town_155 : decode cX6_town 155 = .ok (.isub, 1) := by decide +kernel
theorem dX6_town_156 : decode cX6_town 156 = .ok (.ireturn, 1) := by decide +kernel
theorem dX6_town_157 : decode cX6_town 157 = .ok (.aload_n 0, 1) := by decide +kernel
theorem dX6_town_158 : decode cX6_town 158 = .ok (.getfield 7, 3) := by decide +kernel
theorem dX6_town_161 : decode cX6_town 161 = .ok (.iconst 1, 1) := by decide +kernel
theorem dX6_town_162 : decode cX6_town 162 = .ok (.dup2, 1) := by decide +kernel
theorem dX6_town_163 : decode cX6_town 163 = .ok (.iaload, 1) := by decide +kernel
theorem dX6_town_164 : decode cX6_town 164 = .ok (.iconst 1, 1) := by decide +kernel
theorem dX6_town_165 : decode cX6_town 165 = .ok (.iadd, 1) := by decide +kernel
theorem dX6_town_166 : decode cX6_town 166 = .ok (.iastore, 1) := by decide +kernel
theorem dX6_town_167 : decode cX6_town 167 = .ok (.aload_n 0, 1) := by decide +kernel
theorem dX6_town_168 : decode cX6_town 168 = .ok (.getfield 7, 3) := by decide +kernel
theorem dX6_town_171 : decode cX6_town 171 = .ok (.iconst 4, 1) := by decide +kernel
theorem dX6_town_172 : decode cX6_town 172 = .ok (.aload_n 0, 1) := by decide +kernel
theorem dX6_town_173 : decode cX6_town 173 = .ok (.getfield 79, 3) := by decide +kernel
theorem dX6_town_176 : decode cX6_town 176 = .ok (.iastore, 1) := by decide +kernel
theorem dX6_town_177 : decode cX6_town 177 = .ok (.aload_n 0, 1) := by decide +kernel
theorem dX6_town_178 : decode cX6_town 178 = .ok (.getfield 79, 3) := by decide +kernel
theorem dX6_town_181 : decode cX6_town 181 = .ok (.ireturn, 1) := by decide +kernel
theorem dX6_tellsOf_0 : decode cX6_tellsOf 0 = .ok (.aload_n 0, 1) := by decide +kernel
theorem dX6_tellsOf_1 : decode cX6_tellsOf 1 = .ok (.getfield 7, 3) := by decide +kernel
theorem dX6_tellsOf_4 : decode cX6_tellsOf 4 = .ok (.iconst 4, 1) := by decide +kernel
theorem dX6_tellsOf_5 : decode cX6_tellsOf 5 = .ok (.iaload, 1) := by decide +kernel
theorem dX6_tellsOf_6 : decode cX6_tellsOf 6 = .ok (.iconst (-1), 1) := by decide +kernel
theorem dX6_tellsOf_7 : decode cX6_tellsOf 7 = .ok (.if_icmp .ne 7, 3) := by decide +kernel
theorem dX6_tellsOf_10 : decode cX6_tellsOf 10 = .ok (.iconst 0, 1) := by decide +kernel
theorem dX6_tellsOf_11 : decode cX6_tellsOf 11 = .ok (.goto 16, 3) := by decide +kernel
theorem dX6_tellsOf_14 : decode cX6_tellsOf 14 = .ok (.aload_n 0, 1) := by decide +kernel
theorem dX6_tellsOf_15 : decode cX6_tellsOf 15 = .ok (.getfield 7, 3) := by decide +kernel
theorem dX6_tellsOf_18 : decode cX6_tellsOf 18 = .ok (.iload_n 1, 1) := by decide +kernel
theorem dX6_tellsOf_19 : decode cX6_tellsOf 19 = .ok (.aload_n 0, 1) := by decide +kernel
theorem dX6_tellsOf_20 : decode cX6_tellsOf 20 = .ok (.getfield 7, 3) := by decide +kernel
theorem dX6_tellsOf_23 : decode cX6_tellsOf 23 = .ok (.iconst 4, 1) := by decide +kernel
theorem dX6_tellsOf_24 : decode cX6_tellsOf 24 = .ok (.iaload, 1) := by decide +kernel
theorem dX6_tellsOf_25 : decode cX6_tellsOf 25 = .ok (.iadd, 1) := by decide +kernel
theorem dX6_tellsOf_26 : decode cX6_tellsOf 26 = .ok (.iaload, 1) := by decide +kernel
theorem dX6_tellsOf_27 : decode cX6_tellsOf 27 = .ok (.ireturn, 1) := by decide +kernel
theorem dX6_worthBy_0 : decode cX6_worthBy 0 = .ok (.iconst 0, 1) := by decide +kernel
theorem dX6_worthBy_1 : decode cX6_worthBy 1 = .ok (.istore_n 1, 1) := by decide +kernel
theorem dX6_worthBy_2 : decode cX6_worthBy 2 = .ok (.aload_n 0, 1) := by decide +kernel
theorem dX6_worthBy_3 : decode cX6_worthBy 3 = .ok (.sipush 141, 3) := by decide +kernel
theorem dX6_worthBy_6 : decode cX6_worthBy 6 = .ok (.invokevirtual 125, 3) := by decide +kernel
theorem dX6_worthBy_9 : decode cX6_worthBy 9 = .ok (.istore_n 2, 1) := by decide +kernel
theorem dX6_worthBy_10 : decode cX6_worthBy 10 = .ok (.sipush 146, 3) := by decide +kernel
theorem dX6_worthBy_13 : decode cX6_worthBy 13 = .ok (.sipush 140, 3) := by decide +kernel
theorem dX6_worthBy_16 : decode cX6_worthBy 16 = .ok (.aload_n 0, 1) := by decide +kernel
theorem dX6_worthBy_17 : decode cX6_worthBy 17 = .ok (.getfield 7, 3) := by decide +kernel
theorem dX6_worthBy_20 : decode cX6_worthBy 20 = .ok (.iconst 4, 1) := by decide +kernel
theorem dX6_worthBy_21 : decode cX6_worthBy 21 = .ok (.iaload, 1) := by decide +kernel
theorem dX6_worthBy_22 : decode cX6_worthBy 22 = .ok (.imul, 1) := by decide +kernel
theorem dX6_worthBy_23 : decode cX6_worthBy 23 = .ok (.iadd, 1) := by decide +kernel
theorem dX6_worthBy_24 : decode cX6_worthBy 24 = .ok (.istore_n 3, 1) := by decide +kernel
theorem dX6_worthBy_25 : decode cX6_worthBy 25 = .ok (.iconst 0, 1) := by decide +kernel
theorem dX6_worthBy_26 : decode cX6_worthBy 26 = .ok (.istore 4, 2) := by decide +kernel
theorem dX6_worthBy_28 : decode cX6_worthBy 28 = .ok (.iload_n 3, 1) := by decide +kernel
theorem dX6_worthBy_29 : decode cX6_worthBy 29 = .ok (.istore 5, 2) := by decide +kernel
theorem dX6_worthBy_31 : decode cX6_worthBy 31 = .ok (.iload 5, 2) := by decide +kernel
theorem dX6_worthBy_33 : decode cX6_worthBy 33 = .ok (.iload_n 3, 1) := by decide +kernel
theorem dX6_worthBy_34 : decode cX6_worthBy 34 = .ok (.iload_n 2, 1) := by decide +kernel
theorem dX6_worthBy_35 : decode cX6_worthBy 35 = .ok (.iadd, 1) := by decide +kernel
theorem dX6_worthBy_36 : decode cX6_worthBy 36 = .ok (.if_icmp .ge 279, 3) := by decide +kernel
theorem dX6_worthBy_39 : decode cX6_worthBy 39 = .ok (.aload_n 0, 1) := by decide +kernel
theorem dX6_worthBy_40 : decode cX6_worthBy 40 = .ok (.getfield 7, 3) := by decide +kernel
theorem dX6_worthBy_43 : decode cX6_worthBy 43 = .ok (.iload 5, 2) := by decide +kernel
theorem dX6_worthBy_45 : decode cX6_worthBy 45 = .ok (.iaload, 1) := by decide +kernel
theorem dX6_worthBy_46 : decode cX6_worthBy 46 = .ok (.istore 6, 2) := by decide +kernel
theorem dX6_worthBy_48 : decode cX6_worthBy 48 = .ok (.iload 6, 2) := by decide +kernel
theorem dX6_worthBy_50 : decode cX6_worthBy 50 = .ok (.ifCond .lt 97, 3) := by decide +kernel
theorem dX6_worthBy_53 : decode cX6_worthBy 53 = .ok (.aload_n 0, 1) := by decide +kernel
theorem dX6_worthBy_54 : decode cX6_worthBy 54 = .ok (.getfield 16, 3) := by decide +kernel
theorem dX6_worthBy_57 : decode cX6_worthBy 57 = .ok (.iload 6, 2) := by decide +kernel
theorem dX6_worthBy_59 : decode cX6_worthBy 59 = .ok (.bipush 8, 2) := by decide +kernel
theorem dX6_worthBy_61 : decode cX6_worthBy 61 = .ok (.irem, 1) := by decide +kernel
theorem dX6_worthBy_62 : decode cX6_worthBy 62 = .ok (.iaload, 1) := by decide +kernel
theorem dX6_worthBy_63 : decode cX6_worthBy 63 = .ok (.istore 7, 2) := by decide +kernel
theorem dX6_worthBy_65 : decode cX6_worthBy 65 = .ok (.iload 6, 2) := by decide +kernel
theorem dX6_worthBy_67 : decode cX6_worthBy 67 = .ok (.bipush 8, 2) := by decide +kernel
theorem dX6_worthBy_69 : decode cX6_worthBy 69 = .ok (.idiv, 1) := by decide +kernel
theorem dX6_worthBy_70 : decode cX6_worthBy 70 = .ok (.iconst 4, 1) := by decide +kernel
theorem dX6_worthBy_71 : decode cX6_worthBy 71 = .ok (.irem, 1) := by decide +kernel
theorem dX6_worthBy_72 : decode cX6_worthBy 72 = .ok (.istore 8, 2) := by decide +kernel
theorem dX6_worthBy_74 : decode cX6_worthBy 74 = .ok (.iload 6, 2) := by decide +kernel
theorem dX6_worthBy_76 : decode cX6_worthBy 76 = .ok (.bipush 32, 2) := by decide +kernel
theorem dX6_worthBy_78 : decode cX6_worthBy 78 = .ok (.idiv, 1) := by decide +kernel
theorem dX6_worthBy_79 : decode cX6_worthBy 79 = .ok (.istore 9, 2) := by decide +kernel
theorem dX6_worthBy_81 : decode cX6_worthBy 81 = .ok (.aload_n 0, 1) := by decide +kernel
theorem dX6_worthBy_82 : decode cX6_worthBy 82 = .ok (.getfield 19, 3) := by decide +kernel
theorem dX6_worthBy_85 : decode cX6_worthBy 85 = .ok (.iload 4, 2) := by decide +kernel
theorem dX6_worthBy_87 : decode cX6_worthBy 87 = .ok (.iload 8, 2) := by decide +kernel
theorem dX6_worthBy_89 : decode cX6_worthBy 89 = .ok (.ifCond .ne 18, 3) := by decide +kernel
theorem dX6_worthBy_92 : decode cX6_worthBy 92 = .ok (.iload 7, 2) := by decide +kernel
theorem dX6_worthBy_94 : decode cX6_worthBy 94 = .ok (.iload 9, 2) := by decide +kernel
theorem dX6_worthBy_96 : decode cX6_worthBy 96 = .ok (.if_icmp .ge 7, 3) := by decide +kernel
theorem dX6_worthBy_99 : decode cX6_worthBy 99 = .ok (.iconst 1, 1) := by decide +kernel
theorem dX6_worthBy_100 : decode cX6_worthBy 100 = .ok (.goto 40, 3) := by decide +kernel
theorem dX6_worthBy_103 : decode cX6_worthBy 103 = .ok (.iconst 0, 1) := by decide +kernel
theorem dX6_worthBy_104 : decode cX6_worthBy 104 = .ok (.goto 36, 3) := by decide +kernel
theorem dX6_worthBy_107 : decode cX6_worthBy 107 = .ok (.iload 8, 2) := by decide +kernel
theorem dX6_worthBy_109 : decode cX6_worthBy 109 = .ok (.iconst 1, 1) := by decide +kernel
theorem dX6_worthBy_110 : decode cX6_worthBy 110 = .ok (.if_icmp .ne 18, 3) := by decide +kernel
theorem dX6_worthBy_113 : decode cX6_worthBy 113 = .ok (.iload 7, 2) := by decide +kernel
theorem dX6_worthBy_115 : decode cX6_worthBy 115 = .ok (.iload 9, 2) := by decide +kernel
theorem dX6_worthBy_117 : decode cX6_worthBy 117 = .ok (.if_icmp .ne 7, 3) := by decide +kernel
theorem dX6_worthBy_120 : decode cX6_worthBy 120 = .ok (.iconst 1, 1) := by decide +kernel
theorem dX6_worthBy_121 : decode cX6_worthBy 121 = .ok (.goto 19, 3) := by decide +kernel
theorem dX6_worthBy_124 : decode cX6_worthBy 124 = .ok (.iconst 0, 1) := by decide +kernel
theorem dX6_worthBy_125 : decode cX6_worthBy 125 = .ok (.goto 15, 3) := by decide +kernel
theorem dX6_worthBy_128 : decode cX6_worthBy 128 = .ok (.iload 7, 2) := by decide +kernel
theorem dX6_worthBy_130 : decode cX6_worthBy 130 = .ok (.iload 9, 2) := by decide +kernel
theorem dX6_worthBy_132 : decode cX6_worthBy 132 = .ok (.if_icmp .le 7, 3) := by decide +kernel
theorem dX6_worthBy_135 : decode cX6_worthBy 135 = .ok (.iconst 1, 1) := by decide +kernel
theorem dX6_worthBy_136 : decode cX6_worthBy 136 = .ok (.goto 4, 3) := by decide +kernel
theorem dX6_worthBy_139 : decode cX6_worthBy 139 = .ok (.iconst 0, 1) := by decide +kernel
theorem dX6_worthBy_140 : decode cX6_worthBy 140 = .ok (.bastore, 1) := by decide +kernel
theorem dX6_worthBy_141 : decode cX6_worthBy 141 = .ok (.iinc 4 1, 3) := by decide +kernel
theorem dX6_worthBy_144 : decode cX6_worthBy 144 = .ok (.goto 165, 3) := by decide +kernel
theorem dX6_worthBy_147 : decode cX6_worthBy 147 = .ok (.iload 6, 2) := by decide +kernel
theorem dX6_worthBy_149 : decode cX6_worthBy 149 = .ok (.iconst (-1), 1) := by decide +kernel
theorem dX6_worthBy_150 : decode cX6_worthBy 150 = .ok (.if_icmp .ne 32, 3) := by decide +kernel
theorem dX6_worthBy_153 : decode cX6_worthBy 153 = .ok (.aload_n 0, 1) := by decide +kernel
theorem dX6_worthBy_154 : decode cX6_worthBy 154 = .ok (.getfield 19, 3) := by decide +kernel
theorem dX6_worthBy_157 : decode cX6_worthBy 157 = .ok (.iload 4, 2) := by decide +kernel
theorem dX6_worthBy_159 : decode cX6_worthBy 159 = .ok (.iconst 1, 1) := by decide +kernel
theorem dX6_worthBy_160 : decode cX6_worthBy 160 = .ok (.isub, 1) := by decide +kernel
theorem dX6_worthBy_161 : decode cX6_worthBy 161 = .ok (.aload_n 0, 1) := by decide +kernel
theorem dX6_worthBy_162 : decode cX6_worthBy 162 = .ok (.getfield 19, 3) := by decide +kernel
theorem dX6_worthBy_165 : decode cX6_worthBy 165 = .ok (.iload 4, 2) := by decide +kernel
theorem dX6_worthBy_167 : decode cX6_worthBy 167 = .ok (.iconst 1, 1) := by decide +kernel
theorem dX6_worthBy_168 : decode cX6_worthBy 168 = .ok (.isub, 1) := by decide +kernel
theorem dX6_worthBy_169 : decode cX6_worthBy 169 = .ok (.baload, 1) := by decide +kernel
theorem dX6_worthBy_170 : decode cX6_worthBy 170 = .ok (.ifCond .ne 7, 3) := by decide +kernel
theorem dX6_worthBy_173 : decode cX6_worthBy 173 = .ok (.iconst 1, 1) := by decide +kernel
theorem dX6_worthBy_174 : decode cX6_worthBy 174 = .ok (.goto 4, 3) := by decide +kernel
theorem dX6_worthBy_177 : decode cX6_worthBy 177 = .ok (.iconst 0, 1) := by decide +kernel
theorem dX6_worthBy_178 : decode cX6_worthBy 178 = .ok (.bastore, 1) := by decide +kernel
theorem dX6_worthBy_179 : decode cX6_worthBy 179 = .ok (.goto 130, 3) := by decide +kernel
theorem dX6_worthBy_182 : decode cX6_worthBy 182 = .ok (.iload 6, 2) := by decide +kernel
theorem dX6_worthBy_184 : decode cX6_worthBy 184 = .ok (.bipush (-10), 2) := by decide +kernel
theorem dX6_worthBy_186 : decode cX6_worthBy 186 = .ok (.if_icmp .le 82, 3) := by decide +kernel
theorem dX6_worthBy_189 : decode cX6_worthBy 189 = .ok (.iinc 4 (-1), 3) := by decide +kernel
theorem dX6_worthBy_192 : decode cX6_worthBy 192 = .ok (.aload_n 0, 1) := by decide +kernel
theorem dX6_worthBy_193 : decode cX6_worthBy 193 = .ok (.getfield 19, 3) := by decide +kernel
theorem dX6_worthBy_196 : decode cX6_worthBy 196 = .ok (.iload 4, 2) := by decide +kernel
theorem dX6_worthBy_198 : decode cX6_worthBy 198 = .ok (.iconst 1, 1) := by decide +kernel
theorem dX6_worthBy_199 : decode cX6_worthBy 199 = .ok (.isub, 1) := by decide +kernel
theorem dX6_worthBy_200 : decode cX6_worthBy 200 = .ok (.iload 6, 2) := by decide +kernel
theorem dX6_worthBy_202 : decode cX6_worthBy 202 = .ok (.bipush (-2), 2) := by decide +kernel
theorem dX6_worthBy_204 : decode cX6_worthBy 204 = .ok (.if_icmp .ne 33, 3) := by decide +kernel
theorem dX6_worthBy_207 : decode cX6_worthBy 207 = .ok (.aload_n 0, 1) := by decide +kernel
theorem dX6_worthBy_208 : decode cX6_worthBy 208 = .ok (.getfield 19, 3) := by decide +kernel
theorem dX6_worthBy_211 : decode cX6_worthBy 211 = .ok (.iload 4, 2) := by decide +kernel
theorem dX6_worthBy_213 : decode cX6_worthBy 213 = .ok (.iconst 1, 1) := by decide +kernel
theorem dX6_worthBy_214 : decode cX6_worthBy 214 = .ok (.isub, 1) := by decide +kernel
theorem dX6_worthBy_215 : decode cX6_worthBy 215 = .ok (.baload, 1) := by decide +kernel
theorem dX6_worthBy_216 : decode cX6_worthBy 216 = .ok (.ifCond .eq 17, 3) := by decide +kernel
theorem dX6_worthBy_219 : decode cX6_worthBy 219 = .ok (.aload_n 0, 1) := by decide +kernel
theorem dX6_worthBy_220 : decode cX6_worthBy 220 = .ok (.getfield 19, 3) := by decide +kernel
theorem dX6_worthBy_223 : decode cX6_worthBy 223 = .ok (.iload 4, 2) := by decide +kernel
theorem dX6_worthBy_225 : decode cX6_worthBy 225 = .ok (.baload, 1) := by decide +kernel
theorem dX6_worthBy_226 : decode cX6_worthBy 226 = .ok (.ifCond .eq 7, 3) := by decide +kernel
theorem dX6_worthBy_229 : decode cX6_worthBy 229 = .ok (.iconst 1, 1) := by decide +kernel
theorem dX6_worthBy_230 : decode cX6_worthBy 230 = .ok (.goto 34, 3) := by decide +kernel
theorem dX6_worthBy_233 : decode cX6_worthBy 233 = .ok (.iconst 0, 1) := by decide +kernel
theorem dX6_worthBy_234 : decode cX6_worthBy 234 = .ok (.goto 30, 3) := by decide +kernel
theorem dX6_worthBy_237 : decode cX6_worthBy 237 = .ok (.aload_n 0, 1) := by decide +kernel
theorem dX6_worthBy_238 : decode cX6_worthBy 238 = .ok (.getfield 19, 3) := by decide +kernel
theorem dX6_worthBy_241 : decode cX6_worthBy 241 = .ok (.iload 4, 2) := by decide +kernel
theorem dX6_worthBy_243 : decode cX6_worthBy 243 = .ok (.iconst 1, 1) := by decide +kernel
theorem dX6_worthBy_244 : decode cX6_worthBy 244 = .ok (.isub, 1) := by decide +kernel
theorem dX6_worthBy_245 : decode cX6_worthBy 245 = .ok (.baload, 1) := by decide +kernel
theorem dX6_worthBy_246 : decode cX6_worthBy 246 = .ok (.ifCond .ne 13, 3) := by decide +kernel
theorem dX6_worthBy_249 : decode cX6_worthBy 249 = .ok (.aload_n 0, 1) := by decide +kernel
theorem dX6_worthBy_250 : decode cX6_worthBy 250 = .ok (.getfield 19, 3) := by decide +kernel
theorem dX6_worthBy_253 : decode cX6_worthBy 253 = .ok (.iload 4, 2) := by decide +kernel
theorem dX6_worthBy_255 : decode cX6_worthBy 255 = .ok (.baload, 1) := by decide +kernel
theorem dX6_worthBy_256 : decode cX6_worthBy 256 = .ok (.ifCond .eq 7, 3) := by decide +kernel
theorem dX6_worthBy_259 : decode cX6_worthBy 259 = .ok (.iconst 1, 1) := by decide +kernel
theorem dX6_worthBy_260 : decode cX6_worthBy 260 = .ok (.goto 4, 3) := by decide +kernel
theorem dX6_worthBy_263 : decode cX6_worthBy 263 = .ok (.iconst 0, 1) := by decide +kernel
theorem dX6_worthBy_264 : decode cX6_worthBy 264 = .ok (.bastore, 1) := by decide +kernel
theorem dX6_worthBy_265 : decode cX6_worthBy 265 = .ok (.goto 44, 3) := by decide +kernel
theorem dX6_worthBy_268 : decode cX6_worthBy 268 = .ok (.iconst 0, 1) := by decide +kernel
theorem dX6_worthBy_269 : decode cX6_worthBy 269 = .ok (.istore 4, 2) := by decide +kernel
theorem dX6_worthBy_271 : decode cX6_worthBy 271 = .ok (.iload_n 1, 1) := by decide +kernel
theorem dX6_worthBy_272 : decode cX6_worthBy 272 = .ok (.aload_n 0, 1) := by decide +kernel
theorem dX6_worthBy_273 : decode cX6_worthBy 273 = .ok (.getfield 19, 3) := by decide +kernel
theorem dX6_worthBy_276 : decode cX6_worthBy 276 = .ok (.iconst 0, 1) := by decide +kernel
theorem dX6_worthBy_277 : decode cX6_worthBy 277 = .ok (.baload, 1) := by decide +kernel
theorem dX6_worthBy_278 : decode cX6_worthBy 278 = .ok (.ifCond .ne 7, 3) := by decide +kernel
theorem dX6_worthBy_281 : decode cX6_worthBy 281 = .ok (.iconst 0, 1) := by decide +kernel
theorem dX6_worthBy_282 : decode cX6_worthBy 282 = .ok (.goto 25, 3) := by decide +kernel
theorem dX6_worthBy_285 : decode cX6_worthBy 285 = .ok (.iload 6, 2) := by decide +kernel
theorem dX6_worthBy_287 : decode cX6_worthBy 287 = .ok (.sipush (-200), 3) := by decide +kernel
theorem dX6_worthBy_290 : decode cX6_worthBy 290 = .ok (.if_icmp .le 11, 3) := by decide +kernel
theorem dX6_worthBy_293 : decode cX6_worthBy 293 = .ok (.bipush (-10), 2) := by decide +kernel
theorem dX6_worthBy_295 : decode cX6_worthBy 295 = .ok (.iload 6, 2) := by decide +kernel
theorem dX6_worthBy_297 : decode cX6_worthBy 297 = .ok (.isub, 1) := by decide +kernel
theorem dX6_worthBy_298 : decode cX6_worthBy 298 = .ok (.goto 9, 3) := by decide +kernel
theorem dX6_worthBy_301 : decode cX6_worthBy 301 = .ok (.iload 6, 2) := by decide +kernel
theorem dX6_worthBy_303 : decode cX6_worthBy 303 = .ok (.sipush (-200), 3) := by decide +kernel
theorem dX6_worthBy_306 : decode cX6_worthBy 306 = .ok (.isub, 1) := by decide +kernel
theorem dX6_worthBy_307 : decode cX6_worthBy 307 = .ok (.iadd, 1) := by decide +kernel
theorem dX6_worthBy_308 : decode cX6_worthBy 308 = .ok (.istore_n 1, 1) := by decide +kernel
theorem dX6_worthBy_309 : decode cX6_worthBy 309 = .ok (.iinc 5 1, 3) := by decide +kernel
theorem dX6_worthBy_312 : decode cX6_worthBy 312 = .ok (.goto (-281), 3) := by decide +kernel
theorem dX6_worthBy_315 : decode cX6_worthBy 315 = .ok (.iload_n 1, 1) := by decide +kernel
theorem dX6_worthBy_316 : decode cX6_worthBy 316 = .ok (.ireturn, 1) := by decide +kernel
theorem dX6_looksAt_0 : decode cX6_looksAt 0 = .ok (.aload_n 0, 1) := by decide +kernel
theorem dX6_looksAt_1 : decode cX6_looksAt 1 = .ok (.getfield 16, 3) := by decide +kernel
theorem dX6_looksAt_4 : decode cX6_looksAt 4 = .ok (.iconst 1, 1) := by decide +kernel
theorem dX6_looksAt_5 : decode cX6_looksAt 5 = .ok (.iload_n 1, 1) := by decide +kernel
theorem dX6_looksAt_6 : decode cX6_looksAt 6 = .ok (.iastore, 1) := by decide +kernel
theorem dX6_looksAt_7 : decode cX6_looksAt 7 = .ok (.aload_n 0, 1) := by decide +kernel
theorem dX6_looksAt_8 : decode cX6_looksAt 8 = .ok (.getfield 16, 3) := by decide +kernel
theorem dX6_looksAt_11 : decode cX6_looksAt 11 = .ok (.iconst 5, 1) := by decide +kernel
theorem dX6_looksAt_12 : decode cX6_looksAt 12 = .ok (.aload_n 0, 1) := by decide +kernel
theorem dX6_looksAt_13 : decode cX6_looksAt 13 = .ok (.getfield 7, 3) := by decide +kernel
theorem dX6_looksAt_16 : decode cX6_looksAt 16 = .ok (.bipush 110, 2) := by decide +kernel
theorem dX6_looksAt_18 : decode cX6_looksAt 18 = .ok (.iload_n 1, 1) := by decide +kernel
theorem dX6_looksAt_19 : decode cX6_looksAt 19 = .ok (.iadd, 1) := by decide +kernel
theorem dX6_looksAt_20 : decode cX6_looksAt 20 = .ok (.iaload, 1) := by decide +kernel
theorem dX6_looksAt_21 : decode cX6_looksAt 21 = .ok (.iastore, 1) := by decide +kernel
theorem dX6_looksAt_22 : decode cX6_looksAt 22 = .ok (.iconst 0, 1) := by decide +kernel
theorem dX6_looksAt_23 : decode cX6_looksAt 23 = .ok (.istore_n 2, 1) := by decide +kernel
theorem dX6_looksAt_24 : decode cX6_looksAt 24 = .ok (.iload_n 2, 1) := by decide +kernel
theorem dX6_looksAt_25 : decode cX6_looksAt 25 = .ok (.bipush 96, 2) := by decide +kernel
theorem dX6_looksAt_27 : decode cX6_looksAt 27 = .ok (.if_icmp .ge 66, 3) := by decide +kernel
theorem dX6_looksAt_30 : decode cX6_looksAt 30 = .ok (.aload_n 0, 1) := by decide +kernel
theorem dX6_looksAt_31 : decode cX6_looksAt 31 = .ok (.getfield 16, 3) := by decide +kernel
theorem dX6_looksAt_34 : decode cX6_looksAt 34 = .ok (.iconst 0, 1) := by decide +kernel
theorem dX6_looksAt_35 : decode cX6_looksAt 35 = .ok (.iload_n 2, 1) := by decide +kernel
theorem dX6_looksAt_36 : decode cX6_looksAt 36 = .ok (.bipush 32, 2) := by decide +kernel
theorem dX6_looksAt_38 : decode cX6_looksAt 38 = .ok (.idiv, 1) := by decide +kernel
theorem dX6_looksAt_39 : decode cX6_looksAt 39 = .ok (.iastore, 1) := by decide +kernel
theorem dX6_looksAt_40 : decode cX6_looksAt 40 = .ok (.aload_n 0, 1) := by decide +kernel
theorem dX6_looksAt_41 : decode cX6_looksAt 41 = .ok (.getfield 16, 3) := by decide +kernel
theorem dX6_looksAt_44 : decode cX6_looksAt 44 = .ok (.iconst 2, 1) := by decide +kernel
theorem dX6_looksAt_45 : decode cX6_looksAt 45 = .ok (.iload_n 2, 1) := by decide +kernel
theorem dX6_looksAt_46 : decode cX6_looksAt 46 = .ok (.bipush 8, 2) := by decide +kernel
theorem dX6_looksAt_48 : decode cX6_looksAt 48 = .ok (.idiv, 1) := by decide +kernel
theorem dX6_looksAt_49 : decode cX6_looksAt 49 = .ok (.iconst 4, 1) := by decide +kernel
theorem dX6_looksAt_50 : decode cX6_looksAt 50 = .ok (.irem, 1) := by decide +kernel
theorem dX6_looksAt_51 : decode cX6_looksAt 51 = .ok (.iastore, 1) := by decide +kernel
theorem dX6_looksAt_52 : decode cX6_looksAt 52 = .ok (.aload_n 0, 1) := by decide +kernel
theorem dX6_looksAt_53 : decode cX6_looksAt 53 = .ok (.getfield 16, 3) := by decide +kernel
theorem dX6_looksAt_56 : decode cX6_looksAt 56 = .ok (.iconst 3, 1) := by decide +kernel
theorem dX6_looksAt_57 : decode cX6_looksAt 57 = .ok (.iload_n 2, 1) := by decide +kernel
theorem dX6_looksAt_58 : decode cX6_looksAt 58 = .ok (.iconst 2, 1) := by decide +kernel
theorem dX6_looksAt_59 : decode cX6_looksAt 59 = .ok (.idiv, 1) := by decide +kernel
theorem dX6_looksAt_60 : decode cX6_looksAt 60 = .ok (.iconst 4, 1) := by decide +kernel
theorem dX6_looksAt_61 : decode cX6_looksAt 61 = .ok (.irem, 1) := by decide +kernel
theorem dX6_looksAt_62 : decode cX6_looksAt 62 = .ok (.iastore, 1) := by decide +kernel
theorem dX6_looksAt_63 : decode cX6_looksAt 63 = .ok (.aload_n 0, 1) := by decide +kernel
theorem dX6_looksAt_64 : decode cX6_looksAt 64 = .ok (.getfield 16, 3) := by decide +kernel
theorem dX6_looksAt_67 : decode cX6_looksAt 67 = .ok (.iconst 4, 1) := by decide +kernel
theorem dX6_looksAt_68 : decode cX6_looksAt 68 = .ok (.iload_n 2, 1) := by decide +kernel
theorem dX6_looksAt_69 : decode cX6_looksAt 69 = .ok (.iconst 2, 1) := by decide +kernel
theorem dX6_looksAt_70 : decode cX6_looksAt 70 = .ok (.irem, 1) := by decide +kernel
theorem dX6_looksAt_71 : decode cX6_looksAt 71 = .ok (.iastore, 1) := by decide +kernel
theorem dX6_looksAt_72 : decode cX6_looksAt 72 = .ok (.aload_n 0, 1) := by decide +kernel
theorem dX6_looksAt_73 : decode cX6_looksAt 73 = .ok (.getfield 23, 3) := by decide +kernel
theorem dX6_looksAt_76 : decode cX6_looksAt 76 = .ok (.bipush 96, 2) := by decide +kernel
theorem dX6_looksAt_78 : decode cX6_looksAt 78 = .ok (.iload_n 1, 1) := by decide +kernel
theorem dX6_looksAt_79 : decode cX6_looksAt 79 = .ok (.imul, 1) := by decide +kernel
theorem dX6_looksAt_80 : decode cX6_looksAt 80 = .ok (.iload_n 2, 1) := by decide +kernel
theorem dX6_looksAt_81 : decode cX6_looksAt 81 = .ok (.iadd, 1) := by decide +kernel
theorem dX6_looksAt_82 : decode cX6_looksAt 82 = .ok (.aload_n 0, 1) := by decide +kernel
theorem dX6_looksAt_83 : decode cX6_looksAt 83 = .ok (.invokevirtual 129, 3) := by decide +kernel
theorem dX6_looksAt_86 : decode cX6_looksAt 86 = .ok (.iastore, 1) := by decide +kernel
theorem dX6_looksAt_87 : decode cX6_looksAt 87 = .ok (.iinc 2 1, 3) := by decide +kernel
theorem dX6_looksAt_90 : decode cX6_looksAt 90 = .ok (.goto (-66), 3) := by decide +kernel
theorem dX6_looksAt_93 : decode cX6_looksAt 93 = .ok (.return_, 1) := by decide +kernel
theorem dX6_looks_0 : decode cX6_looks 0 = .ok (.aload_n 0, 1) := by decide +kernel
theorem dX6_looks_1 : decode cX6_looks 1 = .ok (.dup, 1) := by decide +kernel
theorem dX6_looks_2 : decode cX6_looks 2 = .ok (.getfield 132, 3) := by decide +kernel
theorem dX6_looks_5 : decode cX6_looks 5 = .ok (.iconst 1, 1) := by decide +kernel
theorem dX6_looks_6 : decode cX6_looks 6 = .ok (.iadd, 1) := by decide +kernel
theorem dX6_looks_7 : decode cX6_looks 7 = .ok (.putfield 132, 3) := by decide +kernel
theorem dX6_looks_10 : decode cX6_looks 10 = .ok (.iconst 0, 1) := by decide +kernel
theorem dX6_looks_11 : decode cX6_looks 11 = .ok (.istore_n 1, 1) := by decide +kernel
theorem dX6_looks_12 : decode cX6_looks 12 = .ok (.iload_n 1, 1) := by decide +kernel
theorem dX6_looks_13 : decode cX6_looks 13 = .ok (.aload_n 0, 1) := by decide +kernel
theorem dX6_looks_14 : decode cX6_looks 14 = .ok (.getfield 7, 3) := by decide +kernel
theorem dX6_looks_17 : decode cX6_looks 17 = .ok (.iconst 0, 1) := by decide +kernel
theorem dX6_looks_18 : decode cX6_looks 18 = .ok (.iaload, 1) := by decide +kernel
theorem dX6_looks_19 : decode cX6_looks 19 = .ok (.if_icmp .ge 14, 3) := by decide +kernel
theorem dX6_looks_22 : decode cX6_looks 22 = .ok (.aload_n 0, 1) := by decide +kernel
theorem dX6_looks_23 : decode cX6_looks 23 = .ok (.iload_n 1, 1) := by decide +kernel
theorem dX6_looks_24 : decode cX6_looks 24 = .ok (.invokevirtual 135, 3) := by decide +kernel
theorem dX6_looks_27 : decode cX6_looks 27 = .ok (.iinc 1 1, 3) := by decide +kernel
theorem dX6_looks_30 : decode cX6_looks 30 = .ok (.goto (-18), 3) := by decide +kernel
theorem dX6_looks_33 : decode cX6_looks 33 = .ok (.return_, 1) := by decide +kernel
theorem dX6_others_0 : decode cX6_others 0 = .ok (.iconst 0, 1) := by decide +kernel
theorem dX6_others_1 : decode cX6_others 1 = .ok (.istore 4, 2) := by decide +kernel
theorem dX6_others_3 : decode cX6_others 3 = .ok (.iconst 0, 1) := by decide +kernel
theorem dX6_others_4 : decode cX6_others 4 = .ok (.istore 5, 2) := by decide +kernel
theorem dX6_others_6 : decode cX6_others 6 = .ok (.iload 5, 2) := by decide +kernel
theorem dX6_others_8 : decode cX6_others 8 = .ok (.aload_n 0, 1) := by decide +kernel
theorem dX6_others_9 : decode cX6_others 9 = .ok (.getfield 7, 3) := by decide +kernel
theorem dX6_others_12 : decode cX6_others 12 = .ok (.iconst 0, 1) := by decide +kernel
theorem dX6_others_13 : decode cX6_others 13 = .ok (.iaload, 1) := by decide +kernel
theorem dX6_others_14 : decode cX6_others 14 = .ok (.if_icmp .ge 35, 3) := by decide +kernel
theorem dX6_others_17 : decode cX6_others 17 = .ok (.iload 4, 2) := by decide +kernel
theorem dX6_others_19 : decode cX6_others 19 = .ok (.iload 5, 2) := by decide +kernel
theorem dX6_others_21 : decode cX6_others 21 = .ok (.iload_n 2, 1) := by decide +kernel
theorem dX6_others_22 : decode cX6_others 22 = .ok (.if_icmp .eq 17, 3) := by decide +kernel
theorem dX6_others_25 : decode cX6_others 25 = .ok (.iload_n 1, 1) := by decide +kernel
theorem dX6_others_26 : decode cX6_others 26 = .ok (.iload 5, 2) := by decide +kernel
theorem dX6_others_28 : decode cX6_others 28 = .ok (.iload_n 3, 1) := by decide +kernel
theorem dX6_others_29 : decode cX6_others 29 = .ok (.invokestatic 138, 3) := by decide +kernel
theorem dX6_others_32 : decode cX6_others 32 = .ok (.ifCond .eq 7, 3) := by decide +kernel
theorem dX6_others_35 : decode cX6_others 35 = .ok (.iconst 1, 1) := by decide +kernel
theorem dX6_others_36 : decode cX6_others 36 = .ok (.goto 4, 3) := by decide +kernel
theorem dX6_others_39 : decode cX6_others 39 = .ok (.iconst 0, 1) := by decide +kernel
theorem dX6_others_40 : decode cX6_others 40 = .ok (.iadd, 1) := by decide +kernel
theorem dX6_others_41 : decode cX6_others 41 = .ok (.istore 4, 2) := by decide +kernel
theorem dX6_others_43 : decode cX6_others 43 = .ok (.iinc 5 1, 3) := by decide +kernel
theorem dX6_others_46 : decode cX6_others 46 = .ok (.goto (-40), 3) := by decide +kernel
theorem dX6_others_49 : decode cX6_others 49 = .ok (.iload 4, 2) := by decide +kernel
theorem dX6_others_51 : decode cX6_others 51 = .ok (.ireturn, 1) := by decide +kernel
theorem dX6_worthOf_0 : decode cX6_worthOf 0 = .ok (.iload_n 3, 1) := by decide +kernel
theorem dX6_worthOf_1 : decode cX6_worthOf 1 = .ok (.ifCond .ne 7, 3) := by decide +kernel
theorem dX6_worthOf_4 : decode cX6_worthOf 4 = .ok (.iconst 0, 1) := by decide +kernel
theorem dX6_worthOf_5 : decode cX6_worthOf 5 = .ok (.goto 12, 3) := by decide +kernel
theorem dX6_worthOf_8 : decode cX6_worthOf 8 = .ok (.aload_n 0, 1) := by decide +kernel
theorem dX6_worthOf_9 : decode cX6_worthOf 9 = .ok (.iload_n 1, 1) := by decide +kernel
theorem dX6_worthOf_10 : decode cX6_worthOf 10 = .ok (.iload_n 2, 1) := by decide +kernel
theorem dX6_worthOf_11 : decode cX6_worthOf 11 = .ok (.iload_n 3, 1) := by decide +kernel
theorem dX6_worthOf_12 : decode cX6_worthOf 12 = .ok (.iconst 1, 1) := by decide +kernel
theorem dX6_worthOf_13 : decode cX6_worthOf 13 = .ok (.isub, 1) := by decide +kernel
theorem dX6_worthOf_14 : decode cX6_worthOf 14 = .ok (.invokevirtual 141, 3) := by decide +kernel
theorem dX6_worthOf_17 : decode cX6_worthOf 17 = .ok (.istore 4, 2) := by decide +kernel
theorem dX6_worthOf_19 : decode cX6_worthOf 19 = .ok (.iload_n 3, 1) := by decide +kernel
theorem dX6_worthOf_20 : decode cX6_worthOf 20 = .ok (.ifCond .ne 15, 3) := by decide +kernel
theorem dX6_worthOf_23 : decode cX6_worthOf 23 = .ok (.aload_n 0, 1) := by decide +kernel
theorem dX6_worthOf_24 : decode cX6_worthOf 24 = .ok (.getfield 7, 3) := by decide +kernel
theorem dX6_worthOf_27 : decode cX6_worthOf 27 = .ok (.bipush 122, 2) := by decide +kernel
theorem dX6_worthOf_29 : decode cX6_worthOf 29 = .ok (.iload_n 2, 1) := by decide +kernel
theorem dX6_worthOf_30 : decode cX6_worthOf 30 = .ok (.iadd, 1) := by decide +kernel
theorem dX6_worthOf_31 : decode cX6_worthOf 31 = .ok (.iaload, 1) := by decide +kernel
theorem dX6_worthOf_32 : decode cX6_worthOf 32 = .ok (.goto 19, 3) := by decide +kernel
theorem dX6_worthOf_35 : decode cX6_worthOf 35 = .ok (.iload_n 1, 1) := by decide +kernel
theorem dX6_worthOf_36 : decode cX6_worthOf 36 = .ok (.iload_n 2, 1) := by decide +kernel
theorem dX6_worthOf_37 : decode cX6_worthOf 37 = .ok (.iload_n 3, 1) := by decide +kernel
theorem dX6_worthOf_38 : decode cX6_worthOf 38 = .ok (.iconst 1, 1) := by decide +kernel
theorem dX6_worthOf_39 : decode cX6_worthOf 39 = .ok (.isub, 1) := by decide +kernel
theorem dX6_worthOf_40 : decode cX6_worthOf 40 = .ok (.invokestatic 138, 3) := by decide +kernel
theorem dX6_worthOf_43 : decode cX6_worthOf 43 = .ok (.ifCond .eq 7, 3) := by decide +kernel
theorem dX6_worthOf_46 : decode cX6_worthOf 46 = .ok (.iconst 1, 1) := by decide +kernel
theorem dX6_worthOf_47 : decode cX6_worthOf 47 = .ok (.goto 4, 3) := by decide +kernel
theorem dX6_worthOf_50 : decode cX6_worthOf 50 = .ok (.iconst 0, 1) := by decide +kernel
theorem dX6_worthOf_51 : decode cX6_worthOf 51 = .ok (.istore 5, 2) := by decide +kernel
theorem dX6_worthOf_53 : decode cX6_worthOf 53 = .ok (.aload_n 0, 1) := by decide +kernel
theorem dX6_worthOf_54 : decode cX6_worthOf 54 = .ok (.getfield 23, 3) := by decide +kernel
theorem dX6_worthOf_57 : decode cX6_worthOf 57 = .ok (.bipush 96, 2) := by decide +kernel
theorem dX6_worthOf_59 : decode cX6_worthOf 59 = .ok (.iload_n 2, 1) := by decide +kernel
theorem dX6_worthOf_60 : decode cX6_worthOf 60 = .ok (.imul, 1) := by decide +kernel
theorem dX6_worthOf_61 : decode cX6_worthOf 61 = .ok (.bipush 32, 2) := by decide +kernel
theorem dX6_worthOf_63 : decode cX6_worthOf 63 = .ok (.iload_n 3, 1) := by decide +kernel
theorem dX6_worthOf_64 : decode cX6_worthOf 64 = .ok (.imul, 1) := by decide +kernel
theorem dX6_worthOf_65 : decode cX6_worthOf 65 = .ok (.iadd, 1) := by decide +kernel
theorem dX6_worthOf_66 : decode cX6_worthOf 66 = .ok (.bipush 8, 2) := by decide +kernel
theorem dX6_worthOf_68 : decode cX6_worthOf 68 = .ok (.iload 4, 2) := by decide +kernel
theorem dX6_worthOf_70 : decode cX6_worthOf 70 = .ok (.imul, 1) := by decide +kernel
theorem dX6_worthOf_71 : decode cX6_worthOf 71 = .ok (.iadd, 1) := by decide +kernel
theorem dX6_worthOf_72 : decode cX6_worthOf 72 = .ok (.iconst 2, 1) := by decide +kernel
theorem dX6_worthOf_73 : decode cX6_worthOf 73 = .ok (.aload_n 0, 1) := by decide +kernel
theorem dX6_worthOf_74 : decode cX6_worthOf 74 = .ok (.iload_n 1, 1) := by decide +kernel
theorem dX6_worthOf_75 : decode cX6_worthOf 75 = .ok (.iload_n 2, 1) := by decide +kernel
theorem dX6_worthOf_76 : decode cX6_worthOf 76 = .ok (.iload_n 3, 1) := by decide +kernel
theorem dX6_worthOf_77 : decode cX6_worthOf 77 = .ok (.invokevirtual 141, 3) := by decide +kernel
theorem dX6_worthOf_80 : decode cX6_worthOf 80 = .ok (.imul, 1) := by decide +kernel
theorem dX6_worthOf_81 : decode cX6_worthOf 81 = .ok (.iadd, 1) := by decide +kernel
theorem dX6_worthOf_82 : decode cX6_worthOf 82 = .ok (.iload 5, 2) := by decide +kernel
theorem dX6_worthOf_84 : decode cX6_worthOf 84 = .ok (.iadd, 1) := by decide +kernel
theorem dX6_worthOf_85 : decode cX6_worthOf 85 = .ok (.iaload, 1) := by decide +kernel
theorem dX6_worthOf_86 : decode cX6_worthOf 86 = .ok (.ireturn, 1) := by decide +kernel
theorem dX6_gainOf_0 : decode cX6_gainOf 0 = .ok (.iconst 0, 1) := by decide +kernel
theorem dX6_gainOf_1 : decode cX6_gainOf 1 = .ok (.istore_n 3, 1) := by decide +kernel
theorem dX6_gainOf_2 : decode cX6_gainOf 2 = .ok (.iconst 0, 1) := by decide +kernel
theorem dX6_gainOf_3 : decode cX6_gainOf 3 = .ok (.istore 4, 2) := by decide +kernel
theorem dX6_gainOf_5 : decode cX6_gainOf 5 = .ok (.iload 4, 2) := by decide +kernel
theorem dX6_gainOf_7 : decode cX6_gainOf 7 = .ok (.iconst 3, 1) := by decide +kernel
theorem dX6_gainOf_8 : decode cX6_gainOf 8 = .ok (.if_icmp .ge 34, 3) := by decide +kernel
theorem dX6_gainOf_11 : decode cX6_gainOf 11 = .ok (.iload_n 3, 1) := by decide +kernel
theorem dX6_gainOf_12 : decode cX6_gainOf 12 = .ok (.iload_n 1, 1) := by decide +kernel
theorem dX6_gainOf_13 : decode cX6_gainOf 13 = .ok (.iload_n 2, 1) := by decide +kernel
theorem dX6_gainOf_14 : decode cX6_gainOf 14 = .ok (.iload 4, 2) := by decide +kernel
theorem dX6_gainOf_16 : decode cX6_gainOf 16 = .ok (.invokestatic 138, 3) := by decide +kernel
theorem dX6_gainOf_19 : decode cX6_gainOf 19 = .ok (.ifCond .eq 14, 3) := by decide +kernel
theorem dX6_gainOf_22 : decode cX6_gainOf 22 = .ok (.aload_n 0, 1) := by decide +kernel
theorem dX6_gainOf_23 : decode cX6_gainOf 23 = .ok (.iload_n 1, 1) := by decide +kernel
theorem dX6_gainOf_24 : decode cX6_gainOf 24 = .ok (.iload_n 2, 1) := by decide +kernel
theorem dX6_gainOf_25 : decode cX6_gainOf 25 = .ok (.iload 4, 2) := by decide +kernel
theorem dX6_gainOf_27 : decode cX6_gainOf 27 = .ok (.invokevirtual 145, 3) := by decide +kernel
theorem dX6_gainOf_30 : decode cX6_gainOf 30 = .ok (.goto 4, 3) := by decide +kernel
theorem dX6_gainOf_33 : decode cX6_gainOf 33 = .ok (.iconst 0, 1) := by decide +kernel
theorem dX6_gainOf_34 : decode cX6_gainOf 34 = .ok (.iadd, 1) := by decide +kernel
theorem dX6_gainOf_35 : decode cX6_gainOf 35 = .ok (.istore_n 3, 1) := by decide +kernel
theorem dX6_gainOf_36 : decode cX6_gainOf 36 = .ok (.iinc 4 1, 3) := by decide +kernel
theorem dX6_gainOf_39 : decode cX6_gainOf 39 = .ok (.goto (-34), 3) := by decide +kernel
theorem dX6_gainOf_42 : decode cX6_gainOf 42 = .ok (.iload_n 3, 1) := by decide +kernel
theorem dX6_gainOf_43 : decode cX6_gainOf 43 = .ok (.ireturn, 1) := by decide +kernel
theorem dX6_gainOfAll_0 : decode cX6_gainOfAll 0 = .ok (.iconst 0, 1) := by decide +kernel
theorem dX6_gainOfAll_1 : decode cX6_gainOfAll 1 = .ok (.istore_n 2, 1) := by decide +kernel
theorem dX6_gainOfAll_2 : decode cX6_gainOfAll 2 = .ok (.iconst 0, 1) := by decide +kernel
theorem dX6_gainOfAll_3 : decode cX6_gainOfAll 3 = .ok (.istore_n 3, 1) := by decide +kernel
theorem dX6_gainOfAll_4 : decode cX6_gainOfAll 4 = .ok (.iload_n 3, 1) := by decide +kernel
theorem dX6_gainOfAll_5 : decode cX6_gainOfAll 5 = .ok (.aload_n 0, 1) := by decide +kernel
theorem dX6_gainOfAll_6 : decode cX6_gainOfAll 6 = .ok (.getfield 7, 3) := by decide +kernel
theorem dX6_gainOfAll_9 : decode cX6_gainOfAll 9 = .ok (.iconst 0, 1) := by decide +kernel
theorem dX6_gainOfAll_10 : decode cX6_gainOfAll 10 = .ok (.iaload, 1) := by decide +kernel
theorem dX6_gainOfAll_11 : decode cX6_gainOfAll 11 = .ok (.if_icmp .ge 18, 3) := by decide +kernel
theorem dX6_gainOfAll_14 : decode cX6_gainOfAll 14 = .ok (.iload_n 2, 1) := by decide +kernel
theorem dX6_gainOfAll_15 : decode cX6_gainOfAll 15 = .ok (.aload_n 0, 1) := by decide +kernel
theorem dX6_gainOfAll_16 : decode cX6_gainOfAll 16 = .ok (.iload_n 1, 1) := by decide +kernel
theorem dX6_gainOfAll_17 : decode cX6_gainOfAll 17 = .ok (.iload_n 3, 1) := by decide +kernel
theorem dX6_gainOfAll_18 : decode cX6_gainOfAll 18 = .ok (.invokevirtual 148, 3) := by decide +kernel
theorem dX6_gainOfAll_21 : decode cX6_gainOfAll 21 = .ok (.iadd, 1) := by decide +kernel
theorem dX6_gainOfAll_22 : decode cX6_gainOfAll 22 = .ok (.istore_n 2, 1) := by decide +kernel
theorem dX6_gainOfAll_23 : decode cX6_gainOfAll 23 = .ok (.iinc 3 1, 3) := by decide +kernel
theorem dX6_gainOfAll_26 : decode cX6_gainOfAll 26 = .ok (.goto (-22), 3) := by decide +kernel
theorem dX6_gainOfAll_29 : decode cX6_gainOfAll 29 = .ok (.iload_n 2, 1) := by decide +kernel
theorem dX6_gainOfAll_30 : decode cX6_gainOfAll 30 = .ok (.ireturn, 1) := by decide +kernel
theorem dX6_told_0 : decode cX6_told 0 = .ok (.iload_n 1, 1) := by decide +kernel
theorem dX6_told_1 : decode cX6_told 1 = .ok (.tableswitch 78 0 2 #[27, 35, 42], 27) := by decide +kernel
theorem dX6_told_28 : decode cX6_told 28 = .ok (.aload_n 0, 1) := by decide +kernel
theorem dX6_told_29 : decode cX6_told 29 = .ok (.sipush 136, 3) := by decide +kernel
theorem dX6_told_32 : decode cX6_told 32 = .ok (.invokevirtual 125, 3) := by decide +kernel
theorem dX6_told_35 : decode cX6_told 35 = .ok (.ireturn, 1) := by decide +kernel
theorem dX6_told_36 : decode cX6_told 36 = .ok (.aload_n 0, 1) := by decide +kernel
theorem dX6_told_37 : decode cX6_told 37 = .ok (.getfield 7, 3) := by decide +kernel
theorem dX6_told_40 : decode cX6_told 40 = .ok (.iconst 5, 1) := by decide +kernel
theorem dX6_told_41 : decode cX6_told 41 = .ok (.iaload, 1) := by decide +kernel
theorem dX6_told_42 : decode cX6_told 42 = .ok (.ireturn, 1) := by decide +kernel
theorem dX6_told_43 : decode cX6_told 43 = .ok (.iconst 0, 1) := by decide +kernel
theorem dX6_told_44 : decode cX6_told 44 = .ok (.istore_n 2, 1) := by decide +kernel
theorem dX6_told_45 : decode cX6_told 45 = .ok (.iconst 0, 1) := by decide +kernel
theorem dX6_told_46 : decode cX6_told 46 = .ok (.istore_n 3, 1) := by decide +kernel
theorem dX6_told_47 : decode cX6_told 47 = .ok (.iload_n 3, 1) := by decide +kernel
theorem dX6_told_48 : decode cX6_told 48 = .ok (.aload_n 0, 1) := by decide +kernel
theorem dX6_told_49 : decode cX6_told 49 = .ok (.getfield 7, 3) := by decide +kernel
theorem dX6_told_52 : decode cX6_told 52 = .ok (.iconst 0, 1) := by decide +kernel
theorem dX6_told_53 : decode cX6_told 53 = .ok (.iaload, 1) := by decide +kernel
theorem dX6_told_54 : decode cX6_told 54 = .ok (.if_icmp .ge 23, 3) := by decide +kernel
theorem dX6_told_57 : decode cX6_told 57 = .ok (.iload_n 2, 1) := by decide +kernel
theorem dX6_told_58 : decode cX6_told 58 = .ok (.aload_n 0, 1) := by decide +kernel
theorem dX6_told_59 : decode cX6_told 59 = .ok (.getfield 7, 3) := by decide +kernel
theorem dX6_told_62 : decode cX6_told 62 = .ok (.bipush 122, 2) := by decide +kernel
theorem dX6_told_64 : decode cX6_told 64 = .ok (.iload_n 3, 1) := by decide +kernel
theorem dX6_told_65 : decode cX6_told 65 = .ok (.iadd, 1) := by decide +kernel
theorem dX6_told_66 : decode cX6_told 66 = .ok (.iaload, 1) := by decide +kernel
theorem dX6_told_67 : decode cX6_told 67 = .ok (.iload_n 3, 1) := by decide +kernel
theorem dX6_told_68 : decode cX6_told 68 = .ok (.ishl, 1) := by decide +kernel
theorem dX6_told_69 : decode cX6_told 69 = .ok (.ior, 1) := by decide +kernel
theorem dX6_told_70 : decode cX6_told 70 = .ok (.istore_n 2, 1) := by decide +kernel
theorem dX6_told_71 : decode cX6_told 71 = .ok (.iinc 3 1, 3) := by decide +kernel
theorem dX6_told_74 : decode cX6_told 74 = .ok (.goto (-27), 3) := by decide +kernel
theorem dX6_told_77 : decode cX6_told 77 = .ok (.iload_n 2, 1) := by decide +kernel
theorem dX6_told_78 : decode cX6_told 78 = .ok (.ireturn, 1) := by decide +kernel
theorem dX6_told_79 : decode cX6_told 79 = .ok (.iconst (-1), 1) := by decide +kernel
theorem dX6_told_80 : decode cX6_told 80 = .ok (.ireturn, 1) := by decide +kernel
theorem dX6_person_0 : decode cX6_person 0 = .ok (.iload_n 1, 1) := by decide +kernel
theorem dX6_person_1 : decode cX6_person 1 = .ok (.iconst 0, 1) := by decide +kernel
theorem dX6_person_2 : decode cX6_person 2 = .ok (.bipush 6, 2) := by decide +kernel
theorem dX6_person_4 : decode cX6_person 4 = .ok (.invokestatic 45, 3) := by decide +kernel
theorem dX6_person_7 : decode cX6_person 7 = .ok (.ifCond .ne 5, 3) := by decide +kernel
theorem dX6_person_10 : decode cX6_person 10 = .ok (.iconst (-1), 1) := by decide +kernel
theorem dX6_person_11 : decode cX6_person 11 = .ok (.ireturn, 1) := by decide +kernel
theorem dX6_person_12 : decode cX6_person 12 = .ok (.iload_n 2, 1) := by decide +kernel
theorem dX6_person_13 : decode cX6_person 13 = .ok (.iconst 0, 1) := by decide +kernel
theorem dX6_person_14 : decode cX6_person 14 = .ok (.bipush 9, 2) := by decide +kernel
theorem dX6_person_16 : decode cX6_person 16 = .ok (.invokestatic 45, 3) := by decide +kernel
theorem dX6_person_19 : decode cX6_person 19 = .ok (.ifCond .ne 6, 3) := by decide +kernel
theorem dX6_person_22 : decode cX6_person 22 = .ok (.bipush (-2), 2) := by decide +kernel
theorem dX6_person_24 : decode cX6_person 24 = .ok (.ireturn, 1) := by decide +kernel
theorem dX6_person_25 : decode cX6_person 25 = .ok (.aload_n 0, 1) := by decide +kernel
theorem dX6_person_26 : decode cX6_person 26 = .ok (.getfield 7, 3) := by decide +kernel
theorem dX6_person_29 : decode cX6_person 29 = .ok (.iconst 0, 1) := by decide +kernel
theorem dX6_person_30 : decode cX6_person 30 = .ok (.iaload, 1) := by decide +kernel
theorem dX6_person_31 : decode cX6_person 31 = .ok (.iconst 4, 1) := by decide +kernel
theorem dX6_person_32 : decode cX6_person 32 = .ok (.if_icmp .ne 6, 3) := by decide +kernel
theorem dX6_person_35 : decode cX6_person 35 = .ok (.bipush (-4), 2) := by decide +kernel
theorem dX6_person_37 : decode cX6_person 37 = .ok (.ireturn, 1) := by decide +kernel
theorem dX6_person_38 : decode cX6_person 38 = .ok (.aload_n 0, 1) := by decide +kernel
theorem dX6_person_39 : decode cX6_person 39 = .ok (.getfield 7, 3) := by decide +kernel
theorem dX6_person_42 : decode cX6_person 42 = .ok (.iconst 0, 1) := by decide +kernel
theorem dX6_person_43 : decode cX6_person 43 = .ok (.iaload, 1) := by decide +kernel
theorem dX6_person_44 : decode cX6_person 44 = .ok (.istore_n 3, 1) := by decide +kernel
theorem dX6_person_45 : decode cX6_person 45 = .ok (.aload_n 0, 1) := by decide +kernel
theorem dX6_person_46 : decode cX6_person 46 = .ok (.getfield 7, 3) := by decide +kernel
theorem dX6_person_49 : decode cX6_person 49 = .ok (.bipush 110, 2) := by decide +kernel
theorem dX6_person_51 : decode cX6_person 51 = .ok (.iload_n 3, 1) := by decide +kernel
theorem dX6_person_52 : decode cX6_person 52 = .ok (.iadd, 1) := by decide +kernel
theorem dX6_person_53 : decode cX6_person 53 = .ok (.iload_n 1, 1) := by decide +kernel
theorem dX6_person_54 : decode cX6_person 54 = .ok (.iastore, 1) := by decide +kernel
theorem dX6_person_55 : decode cX6_person 55 = .ok (.aload_n 0, 1) := by decide +kernel
theorem dX6_person_56 : decode cX6_person 56 = .ok (.getfield 7, 3) := by decide +kernel
theorem dX6_person_59 : decode cX6_person 59 = .ok (.bipush 114, 2) := by decide +kernel
theorem dX6_person_61 : decode cX6_person 61 = .ok (.iload_n 3, 1) := by decide +kernel
theorem dX6_person_62 : decode cX6_person 62 = .ok (.iadd, 1) := by decide +kernel
theorem dX6_person_63 : decode cX6_person 63 = .ok (.iload_n 2, 1) := by decide +kernel
theorem dX6_person_64 : decode cX6_person 64 = .ok (.iastore, 1) := by decide +kernel
theorem dX6_person_65 : decode cX6_person 65 = .ok (.aload_n 0, 1) := by decide +kernel
theorem dX6_person_66 : decode cX6_person 66 = .ok (.getfield 7, 3) := by decide +kernel
theorem dX6_person_69 : decode cX6_person 69 = .ok (.bipush 118, 2) := by decide +kernel
theorem dX6_person_71 : decode cX6_person 71 = .ok (.iload_n 3, 1) := by decide +kernel
theorem dX6_person_72 : decode cX6_person 72 = .ok (.iadd, 1) := by decide +kernel
theorem dX6_person_73 : decode cX6_person 73 = .ok (.iconst 0, 1) := by decide +kernel
theorem dX6_person_74 : decode cX6_person 74 = .ok (.iastore, 1) := by decide +kernel
theorem dX6_person_75 : decode cX6_person 75 = .ok (.aload_n 0, 1) := by decide +kernel
theorem dX6_person_76 : decode cX6_person 76 = .ok (.getfield 7, 3) := by decide +kernel
theorem dX6_person_79 : decode cX6_person 79 = .ok (.bipush 122, 2) := by decide +kernel
theorem dX6_person_81 : decode cX6_person 81 = .ok (.iload_n 3, 1) := by decide +kernel
theorem dX6_person_82 : decode cX6_person 82 = .ok (.iadd, 1) := by decide +kernel
theorem dX6_person_83 : decode cX6_person 83 = .ok (.iconst 0, 1) := by decide +kernel
theorem dX6_person_84 : decode cX6_person 84 = .ok (.iastore, 1) := by decide +kernel
theorem dX6_person_85 : decode cX6_person 85 = .ok (.aload_n 0, 1) := by decide +kernel
theorem dX6_person_86 : decode cX6_person 86 = .ok (.getfield 7, 3) := by decide +kernel
theorem dX6_person_89 : decode cX6_person 89 = .ok (.iconst 0, 1) := by decide +kernel
theorem dX6_person_90 : decode cX6_person 90 = .ok (.dup2, 1) := by decide +kernel
theorem dX6_person_91 : decode cX6_person 91 = .ok (.iaload, 1) := by decide +kernel
theorem dX6_person_92 : decode cX6_person 92 = .ok (.iconst 1, 1) := by decide +kernel
theorem dX6_person_93 : decode cX6_person 93 = .ok (.iadd, 1) := by decide +kernel
theorem dX6_person_94 : decode cX6_person 94 = .ok (.iastore, 1) := by decide +kernel
theorem dX6_person_95 : decode cX6_person 95 = .ok (.iload_n 3, 1) := by decide +kernel
theorem dX6_person_96 : decode cX6_person 96 = .ok (.ireturn, 1) := by decide +kernel
theorem dX6_of_0 : decode cX6_of 0 = .ok (.aload_n 0, 1) := by decide +kernel
theorem dX6_of_1 : decode cX6_of 1 = .ok (.iload_n 1, 1) := by decide +kernel
theorem dX6_of_2 : decode cX6_of 2 = .ok (.invokevirtual 152, 3) := by decide +kernel
theorem dX6_of_5 : decode cX6_of 5 = .ok (.ifCond .ne 5, 3) := by decide +kernel
theorem dX6_of_8 : decode cX6_of 8 = .ok (.iconst (-1), 1) := by decide +kernel
theorem dX6_of_9 : decode cX6_of 9 = .ok (.ireturn, 1) := by decide +kernel
theorem dX6_of_10 : decode cX6_of 10 = .ok (.iload_n 2, 1) := by decide +kernel
theorem dX6_of_11 : decode cX6_of 11 = .ok (.tableswitch 88 0 3 #[29, 39, 49, 78], 29) := by decide +kernel
theorem dX6_of_40 : decode cX6_of 40 = .ok (.aload_n 0, 1) := by decide +kernel
theorem dX6_of_41 : decode cX6_of 41 = .ok (.getfield 7, 3) := by decide +kernel
theorem dX6_of_44 : decode cX6_of 44 = .ok (.bipush 110, 2) := by decide +kernel
theorem dX6_of_46 : decode cX6_of 46 = .ok (.iload_n 1, 1) := by decide +kernel
theorem dX6_of_47 : decode cX6_of 47 = .ok (.iadd, 1) := by decide +kernel
theorem dX6_of_48 : decode cX6_of 48 = .ok (.iaload, 1) := by decide +kernel
theorem dX6_of_49 : decode cX6_of 49 = .ok (.ireturn, 1) := by decide +kernel
theorem dX6_of_50 : decode cX6_of 50 = .ok (.aload_n 0, 1) := by decide +kernel
theorem dX6_of_51 : decode cX6_of 51 = .ok (.getfield 7, 3) := by decide +kernel
theorem dX6_of_54 : decode cX6_of 54 = .ok (.bipush 114, 2) := by decide +kernel
theorem dX6_of_56 : decode cX6_of 56 = .ok (.iload_n 1, 1) := by decide +kernel
theorem dX6_of_57 : decode cX6_of 57 = .ok (.iadd, 1) := by decide +kernel
theorem dX6_of_58 : decode cX6_of 58 = .ok (.iaload, 1) := by decide +kernel
theorem dX6_of_59 : decode cX6_of 59 = .ok (.ireturn, 1) := by decide +kernel
theorem dX6_of_60 : decode cX6_of 60 = .ok (.aload_n 0, 1) := by decide +kernel
theorem dX6_of_61 : decode cX6_of 61 = .ok (.getfield 7, 3) := by decide +kernel
theorem dX6_of_64 : decode cX6_of 64 = .ok (.bipush 110, 2) := by decide +kernel
theorem dX6_of_66 : decode cX6_of 66 = .ok (.iload_n 1, 1) := by decide +kernel
theorem dX6_of_67 : decode cX6_of 67 = .ok (.iadd, 1) := by decide +kernel
theorem dX6_of_68 : decode cX6_of 68 = .ok (.iaload, 1) := by decide +kernel
theorem dX6_of_69 : decode cX6_of 69 = .ok (.bipush 6, 2) := by decide +kernel
theorem dX6_of_71 : decode cX6_of 71 = .ok (.if_icmp .ne 15, 3) := by decide +kernel
theorem dX6_of_74 : decode cX6_of 74 = .ok (.aload_n 0, 1) := by decide +kernel
theorem dX6_of_75 : decode cX6_of 75 = .ok (.getfield 7, 3) := by decide +kernel
theorem dX6_of_78 : decode cX6_of 78 = .ok (.bipush 118, 2) := by decide +kernel
theorem dX6_of_80 : decode cX6_of 80 = .ok (.iload_n 1, 1) := by decide +kernel
theorem dX6_of_81 : decode cX6_of 81 = .ok (.iadd, 1) := by decide +kernel
theorem dX6_of_82 : decode cX6_of 82 = .ok (.iaload, 1) := by decide +kernel
theorem dX6_of_83 : decode cX6_of 83 = .ok (.goto 5, 3) := by decide +kernel
theorem dX6_of_86 : decode cX6_of 86 = .ok (.bipush (-5), 2) := by decide +kernel
theorem dX6_of_88 : decode cX6_of 88 = .ok (.ireturn, 1) := by decide +kernel
theorem dX6_of_89 : decode cX6_of 89 = .ok (.aload_n 0, 1) := by decide +kernel
theorem dX6_of_90 : decode cX6_of 90 = .ok (.getfield 7, 3) := by decide +kernel
theorem dX6_of_93 : decode cX6_of 93 = .ok (.bipush 122, 2) := by decide +kernel
theorem dX6_of_95 : decode cX6_of 95 = .ok (.iload_n 1, 1) := by decide +kernel
theorem dX6_of_96 : decode cX6_of 96 = .ok (.iadd, 1) := by decide +kernel
theorem dX6_of_97 : decode cX6_of 97 = .ok (.iaload, 1) := by decide +kernel
theorem dX6_of_98 : decode cX6_of 98 = .ok (.ireturn, 1) := by decide +kernel
theorem dX6_of_99 : decode cX6_of 99 = .ok (.iconst (-1), 1) := by decide +kernel
theorem dX6_of_100 : decode cX6_of 100 = .ok (.ireturn, 1) := by decide +kernel
theorem dX6_row_0 : decode cX6_row 0 = .ok (.aload_n 0, 1) := by decide +kernel
theorem dX6_row_1 : decode cX6_row 1 = .ok (.iload_n 1, 1) := by decide +kernel
theorem dX6_row_2 : decode cX6_row 2 = .ok (.invokevirtual 152, 3) := by decide +kernel
theorem dX6_row_5 : decode cX6_row 5 = .ok (.ifCond .ne 5, 3) := by decide +kernel
theorem dX6_row_8 : decode cX6_row 8 = .ok (.iconst (-1), 1) := by decide +kernel
theorem dX6_row_9 : decode cX6_row 9 = .ok (.ireturn, 1) := by decide +kernel
theorem dX6_row_10 : decode cX6_row 10 = .ok (.iload_n 2, 1) := by decide +kernel
theorem dX6_row_11 : decode cX6_row 11 = .ok (.iconst 0, 1) := by decide +kernel
theorem dX6_row_12 : decode cX6_row 12 = .ok (.bipush 7, 2) := by decide +kernel
theorem dX6_row_14 : decode cX6_row 14 = .ok (.invokestatic 45, 3) := by decide +kernel
theorem dX6_row_17 : decode cX6_row 17 = .ok (.ifCond .ne 6, 3) := by decide +kernel
theorem dX6_row_20 : decode cX6_row 20 = .ok (.bipush (-2), 2) := by decide +kernel
theorem dX6_row_22 : decode cX6_row 22 = .ok (.ireturn, 1) := by decide +kernel
theorem dX6_row_23 : decode cX6_row 23 = .ok (.aload_n 0, 1) := by decide +kernel
theorem dX6_row_24 : decode cX6_row 24 = .ok (.getfield 7, 3) := by decide +kernel
theorem dX6_row_27 : decode cX6_row 27 = .ok (.bipush 110, 2) := by decide +kernel
theorem dX6_row_29 : decode cX6_row 29 = .ok (.iload_n 1, 1) := by decide +kernel
theorem dX6_row_30 : decode cX6_row 30 = .ok (.iadd, 1) := by decide +kernel
theorem dX6_row_31 : decode cX6_row 31 = .ok (.iaload, 1) := by decide +kernel
theorem dX6_row_32 : decode cX6_row 32 = .ok (.bipush 6, 2) := by decide +kernel
theorem dX6_row_34 : decode cX6_row 34 = .ok (.if_icmp .eq 6, 3) := by decide +kernel
theorem dX6_row_37 : decode cX6_row 37 = .ok (.bipush (-3), 2) := by decide +kernel
theorem dX6_row_39 : decode cX6_row 39 = .ok (.ireturn, 1) := by decide +kernel
theorem dX6_row_40 : decode cX6_row 40 = .ok (.aload_n 0, 1) := by decide +kernel
theorem dX6_row_41 : decode cX6_row 41 = .ok (.getfield 7, 3) := by decide +kernel
theorem dX6_row_44 : decode cX6_row 44 = .ok (.bipush 118, 2) := by decide +kernel
theorem dX6_row_46 : decode cX6_row 46 = .ok (.iload_n 1, 1) := by decide +kernel
theorem dX6_row_47 : decode cX6_row 47 = .ok (.iadd, 1) := by decide +kernel
theorem dX6_row_48 : decode cX6_row 48 = .ok (.iaload, 1) := by decide +kernel
theorem dX6_row_49 : decode cX6_row 49 = .ok (.istore_n 3, 1) := by decide +kernel
theorem dX6_row_50 : decode cX6_row 50 = .ok (.aload_n 0, 1) := by decide +kernel
theorem dX6_row_51 : decode cX6_row 51 = .ok (.getfield 7, 3) := by decide +kernel
theorem dX6_row_54 : decode cX6_row 54 = .ok (.bipush 118, 2) := by decide +kernel
theorem dX6_row_56 : decode cX6_row 56 = .ok (.iload_n 1, 1) := by decide +kernel
theorem dX6_row_57 : decode cX6_row 57 = .ok (.iadd, 1) := by decide +kernel
theorem dX6_row_58 : decode cX6_row 58 = .ok (.iload_n 2, 1) := by decide +kernel
theorem dX6_row_59 : decode cX6_row 59 = .ok (.iastore, 1) := by decide +kernel
theorem dX6_row_60 : decode cX6_row 60 = .ok (.iload_n 3, 1) := by decide +kernel
theorem dX6_row_61 : decode cX6_row 61 = .ok (.ireturn, 1) := by decide +kernel
theorem dX6_note_0 : decode cX6_note 0 = .ok (.aload_n 0, 1) := by decide +kernel
theorem dX6_note_1 : decode cX6_note 1 = .ok (.iload_n 1, 1) := by decide +kernel
theorem dX6_note_2 : decode cX6_note 2 = .ok (.invokevirtual 152, 3) := by decide +kernel
theorem dX6_note_5 : decode cX6_note 5 = .ok (.ifCond .ne 5, 3) := by decide +kernel
theorem dX6_note_8 : decode cX6_note 8 = .ok (.iconst (-1), 1) := by decide +kernel
theorem dX6_note_9 : decode cX6_note 9 = .ok (.ireturn, 1) := by decide +kernel
theorem dX6_note_10 : decode cX6_note 10 = .ok (.aload_n 0, 1) := by decide +kernel
theorem dX6_note_11 : decode cX6_note 11 = .ok (.getfield 7, 3) := by decide +kernel
theorem dX6_note_14 : decode cX6_note 14 = .ok (.bipush 122, 2) := by decide +kernel
theorem dX6_note_16 : decode cX6_note 16 = .ok (.iload_n 1, 1) := by decide +kernel
theorem dX6_note_17 : decode cX6_note 17 = .ok (.iadd, 1) := by decide +kernel
theorem dX6_note_18 : decode cX6_note 18 = .ok (.iaload, 1) := by decide +kernel
theorem dX6_note_19 : decode cX6_note 19 = .ok (.istore_n 3, 1) := by decide +kernel
theorem dX6_note_20 : decode cX6_note 20 = .ok (.aload_n 0, 1) := by decide +kernel
theorem dX6_note_21 : decode cX6_note 21 = .ok (.getfield 7, 3) := by decide +kernel
theorem dX6_note_24 : decode cX6_note 24 = .ok (.bipush 122, 2) := by decide +kernel
theorem dX6_note_26 : decode cX6_note 26 = .ok (.iload_n 1, 1) := by decide +kernel
theorem dX6_note_27 : decode cX6_note 27 = .ok (.iadd, 1) := by decide +kernel
theorem dX6_note_28 : decode cX6_note 28 = .ok (.iload_n 2, 1) := by decide +kernel
theorem dX6_note_29 : decode cX6_note 29 = .ok (.ifCond .eq 7, 3) := by decide +kernel
theorem dX6_note_32 : decode cX6_note 32 = .ok (.iconst 1, 1) := by decide +kernel
theorem dX6_note_33 : decode cX6_note 33 = .ok (.goto 4, 3) := by decide +kernel
theorem dX6_note_36 : decode cX6_note 36 = .ok (.iconst 0, 1) := by decide +kernel
theorem dX6_note_37 : decode cX6_note 37 = .ok (.iastore, 1) := by decide +kernel
theorem dX6_note_38 : decode cX6_note 38 = .ok (.iload_n 3, 1) := by decide +kernel
theorem dX6_note_39 : decode cX6_note 39 = .ok (.ireturn, 1) := by decide +kernel
theorem dX6_yesterday_0 : decode cX6_yesterday 0 = .ok (.aload_n 0, 1) := by decide +kernel
theorem dX6_yesterday_1 : decode cX6_yesterday 1 = .ok (.iload_n 1, 1) := by decide +kernel
theorem dX6_yesterday_2 : decode cX6_yesterday 2 = .ok (.invokevirtual 156, 3) := by decide +kernel
theorem dX6_yesterday_5 : decode cX6_yesterday 5 = .ok (.ifCond .ne 6, 3) := by decide +kernel
theorem dX6_yesterday_8 : decode cX6_yesterday 8 = .ok (.bipush (-2), 2) := by decide +kernel
theorem dX6_yesterday_10 : decode cX6_yesterday 10 = .ok (.ireturn, 1) := by decide +kernel
theorem dX6_yesterday_11 : decode cX6_yesterday 11 = .ok (.aload_n 0, 1) := by decide +kernel
theorem dX6_yesterday_12 : decode cX6_yesterday 12 = .ok (.getfield 7, 3) := by decide +kernel
theorem dX6_yesterday_15 : decode cX6_yesterday 15 = .ok (.iconst 5, 1) := by decide +kernel
theorem dX6_yesterday_16 : decode cX6_yesterday 16 = .ok (.iaload, 1) := by decide +kernel
theorem dX6_yesterday_17 : decode cX6_yesterday 17 = .ok (.istore_n 2, 1) := by decide +kernel
theorem dX6_yesterday_18 : decode cX6_yesterday 18 = .ok (.aload_n 0, 1) := by decide +kernel
theorem dX6_yesterday_19 : decode cX6_yesterday 19 = .ok (.getfield 7, 3) := by decide +kernel
theorem dX6_yesterday_22 : decode cX6_yesterday 22 = .ok (.iconst 5, 1) := by decide +kernel
theorem dX6_yesterday_23 : decode cX6_yesterday 23 = .ok (.iload_n 1, 1) := by decide +kernel
theorem dX6_yesterday_24 : decode cX6_yesterday 24 = .ok (.iastore, 1) := by decide +kernel
theorem dX6_yesterday_25 : decode cX6_yesterday 25 = .ok (.iload_n 2, 1) := by decide +kernel
theorem dX6_yesterday_26 : decode cX6_yesterday 26 = .ok (.ireturn, 1) := by decide +kernel
theorem dX6_withOwn_0 : decode cX6_withOwn 0 = .ok (.iload_n 0, 1) := by decide +kernel
theorem dX6_withOwn_1 : decode cX6_withOwn 1 = .ok (.bipush 7, 2) := by decide +kernel
theorem dX6_withOwn_3 : decode cX6_withOwn 3 = .ok (.iconst 3, 1) := by decide +kernel
theorem dX6_withOwn_4 : decode cX6_withOwn 4 = .ok (.iload_n 1, 1) := by decide +kernel
theorem dX6_withOwn_5 : decode cX6_withOwn 5 = .ok (.imul, 1) := by decide +kernel
theorem dX6_withOwn_6 : decode cX6_withOwn 6 = .ok (.ishl, 1) := by decide +kernel
theorem dX6_withOwn_7 : decode cX6_withOwn 7 = .ok (.iconst (-1), 1) := by decide +kernel
theorem dX6_withOwn_8 : decode cX6_withOwn 8 = .ok (.ixor, 1) := by decide +kernel
theorem dX6_withOwn_9 : decode cX6_withOwn 9 = .ok (.iand, 1) := by decide +kernel
theorem dX6_withOwn_10 : decode cX6_withOwn 10 = .ok (.iload_n 2, 1) := by decide +kernel
theorem dX6_withOwn_11 : decode cX6_withOwn 11 = .ok (.iconst 3, 1) := by decide +kernel
theorem dX6_withOwn_12 : decode cX6_withOwn 12 = .ok (.iload_n 1, 1) := by decide +kernel
theorem dX6_withOwn_13 : decode cX6_withOwn 13 = .ok (.imul, 1) := by decide +kernel
theorem dX6_withOwn_14 : decode cX6_withOwn 14 = .ok (.ishl, 1) := by decide +kernel
theorem dX6_withOwn_15 : decode cX6_withOwn 15 = .ok (.ior, 1) := by decide +kernel
theorem dX6_withOwn_16 : decode cX6_withOwn 16 = .ok (.ireturn, 1) := by decide +kernel
theorem dX6_bestOwn_0 : decode cX6_bestOwn 0 = .ok (.sipush 4096, 3) := by decide +kernel
theorem dX6_bestOwn_3 : decode cX6_bestOwn 3 = .ok (.iload_n 2, 1) := by decide +kernel
theorem dX6_bestOwn_4 : decode cX6_bestOwn 4 = .ok (.imul, 1) := by decide +kernel
theorem dX6_bestOwn_5 : decode cX6_bestOwn 5 = .ok (.iload_n 1, 1) := by decide +kernel
theorem dX6_bestOwn_6 : decode cX6_bestOwn 6 = .ok (.iload_n 2, 1) := by decide +kernel
theorem dX6_bestOwn_7 : decode cX6_bestOwn 7 = .ok (.iconst 0, 1) := by decide +kernel
theorem dX6_bestOwn_8 : decode cX6_bestOwn 8 = .ok (.invokestatic 159, 3) := by decide +kernel
theorem dX6_bestOwn_11 : decode cX6_bestOwn 11 = .ok (.iadd, 1) := by decide +kernel
theorem dX6_bestOwn_12 : decode cX6_bestOwn 12 = .ok (.istore_n 3, 1) := by decide +kernel
theorem dX6_bestOwn_13 : decode cX6_bestOwn 13 = .ok (.aload_n 0, 1) := by decide +kernel
theorem dX6_bestOwn_14 : decode cX6_bestOwn 14 = .ok (.getfield 26, 3) := by decide +kernel
theorem dX6_bestOwn_17 : decode cX6_bestOwn 17 = .ok (.iload_n 3, 1) := by decide +kernel
theorem dX6_bestOwn_18 : decode cX6_bestOwn 18 = .ok (.iaload, 1) := by decide +kernel
theorem dX6_bestOwn_19 : decode cX6_bestOwn 19 = .ok (.bipush 8, 2) := by decide +kernel
theorem dX6_bestOwn_21 : decode cX6_bestOwn 21 = .ok (.idiv, 1) := by decide +kernel
theorem dX6_bestOwn_22 : decode cX6_bestOwn 22 = .ok (.aload_n 0, 1) := by decide +kernel
theorem dX6_bestOwn_23 : decode cX6_bestOwn 23 = .ok (.getfield 132, 3) := by decide +kernel
theorem dX6_bestOwn_26 : decode cX6_bestOwn 26 = .ok (.if_icmp .ne 13, 3) := by decide +kernel
theorem dX6_bestOwn_29 : decode cX6_bestOwn 29 = .ok (.aload_n 0, 1) := by decide +kernel
theorem dX6_bestOwn_30 : decode cX6_bestOwn 30 = .ok (.getfield 26, 3) := by decide +kernel
theorem dX6_bestOwn_33 : decode cX6_bestOwn 33 = .ok (.iload_n 3, 1) := by decide +kernel
theorem dX6_bestOwn_34 : decode cX6_bestOwn 34 = .ok (.iaload, 1) := by decide +kernel
theorem dX6_bestOwn_35 : decode cX6_bestOwn 35 = .ok (.bipush 8, 2) := by decide +kernel
theorem dX6_bestOwn_37 : decode cX6_bestOwn 37 = .ok (.irem, 1) := by decide +kernel
theorem dX6_bestOwn_38 : decode cX6_bestOwn 38 = .ok (.ireturn, 1) := by decide +kernel
theorem dX6_bestOwn_39 : decode cX6_bestOwn 39 = .ok (.iconst 0, 1) := by decide +kernel
theorem dX6_bestOwn_40 : decode cX6_bestOwn 40 = .ok (.istore 4, 2) := by decide +kernel
theorem dX6_bestOwn_42 : decode cX6_bestOwn 42 = .ok (.iconst 0, 1) := by decide +kernel
theorem dX6_bestOwn_43 : decode cX6_bestOwn 43 = .ok (.istore 5, 2) := by decide +kernel
theorem dX6_bestOwn_45 : decode cX6_bestOwn 45 = .ok (.iconst 0, 1) := by decide +kernel
theorem dX6_bestOwn_46 : decode cX6_bestOwn 46 = .ok (.istore 6, 2) := by decide +kernel
theorem dX6_bestOwn_48 : decode cX6_bestOwn 48 = .ok (.iload 6, 2) := by decide +kernel
theorem dX6_bestOwn_50 : decode cX6_bestOwn 50 = .ok (.bipush 8, 2) := by decide +kernel
theorem dX6_bestOwn_52 : decode cX6_bestOwn 52 = .ok (.if_icmp .ge 65, 3) := by decide +kernel
theorem dX6_bestOwn_55 : decode cX6_bestOwn 55 = .ok (.aload_n 0, 1) := by decide +kernel
theorem dX6_bestOwn_56 : decode cX6_bestOwn 56 = .ok (.iload_n 1, 1) := by decide +kernel
theorem dX6_bestOwn_57 : decode cX6_bestOwn 57 = .ok (.iload_n 2, 1) := by decide +kernel
theorem dX6_bestOwn_58 : decode cX6_bestOwn 58 = .ok (.iload 6, 2) := by decide +kernel
theorem dX6_bestOwn_60 : decode cX6_bestOwn 60 = .ok (.invokestatic 159, 3) := by decide +kernel
theorem dX6_bestOwn_63 : decode cX6_bestOwn 63 = .ok (.iload_n 2, 1) := by decide +kernel
theorem dX6_bestOwn_64 : decode cX6_bestOwn 64 = .ok (.invokevirtual 148, 3) := by decide +kernel
theorem dX6_bestOwn_67 : decode cX6_bestOwn 67 = .ok (.istore 7, 2) := by decide +kernel
theorem dX6_bestOwn_69 : decode cX6_bestOwn 69 = .ok (.iload 6, 2) := by decide +kernel
theorem dX6_bestOwn_71 : decode cX6_bestOwn 71 = .ok (.ifCond .eq 10, 3) := by decide +kernel
theorem dX6_bestOwn_74 : decode cX6_bestOwn 74 = .ok (.iload 7, 2) := by decide +kernel
theorem dX6_bestOwn_76 : decode cX6_bestOwn 76 = .ok (.iload 5, 2) := by decide +kernel
theorem dX6_bestOwn_78 : decode cX6_bestOwn 78 = .ok (.if_icmp .le 8, 3) := by decide +kernel
theorem dX6_bestOwn_81 : decode cX6_bestOwn 81 = .ok (.iload 6, 2) := by decide +kernel
theorem dX6_bestOwn_83 : decode cX6_bestOwn 83 = .ok (.goto 5, 3) := by decide +kernel
theorem dX6_bestOwn_86 : decode cX6_bestOwn 86 = .ok (.iload 4, 2) := by decide +kernel
theorem dX6_bestOwn_88 : decode cX6_bestOwn 88 = .ok (.istore 4, 2) := by decide +kernel
theorem dX6_bestOwn_90 : decode cX6_bestOwn 90 = .ok (.iload 6, 2) := by decide +kernel
theorem dX6_bestOwn_92 : decode cX6_bestOwn 92 = .ok (.ifCond .eq 10, 3) := by decide +kernel
theorem dX6_bestOwn_95 : decode cX6_bestOwn 95 = .ok (.iload 7, 2) := by decide +kernel
theorem dX6_bestOwn_97 : decode cX6_bestOwn 97 = .ok (.iload 5, 2) := by decide +kernel
theorem dX6_bestOwn_99 : decode cX6_bestOwn 99 = .ok (.if_icmp .le 8, 3) := by decide +kernel
theorem dX6_bestOwn_102 : decode cX6_bestOwn 102 = .ok (.iload 7, 2) := by decide +kernel
theorem dX6_bestOwn_104 : decode cX6_bestOwn 104 = .ok (.goto 5, 3) := by decide +kernel
theorem dX6_bestOwn_107 : decode cX6_bestOwn 107 = .ok (.iload 5, 2) := by decide +kernel
theorem dX6_bestOwn_109 : decode cX6_bestOwn 109 = .ok (.istore 5, 2) := by decide +kernel
theorem dX6_bestOwn_111 : decode cX6_bestOwn 111 = .ok (.iinc 6 1, 3) := by decide +kernel
theorem dX6_bestOwn_114 : decode cX6_bestOwn 114 = .ok (.goto (-66), 3) := by decide +kernel
theorem dX6_bestOwn_117 : decode cX6_bestOwn 117 = .ok (.aload_n 0, 1) := by decide +kernel
theorem dX6_bestOwn_118 : decode cX6_bestOwn 118 = .ok (.getfield 26, 3) := by decide +kernel
theorem dX6_bestOwn_121 : decode cX6_bestOwn 121 = .ok (.iload_n 3, 1) := by decide +kernel
theorem dX6_bestOwn_122 : decode cX6_bestOwn 122 = .ok (.bipush 8, 2) := by decide +kernel
theorem dX6_bestOwn_124 : decode cX6_bestOwn 124 = .ok (.aload_n 0, 1) := by decide +kernel
theorem dX6_bestOwn_125 : decode cX6_bestOwn 125 = .ok (.getfield 132, 3) := by decide +kernel
theorem dX6_bestOwn_128 : decode cX6_bestOwn 128 = .ok (.imul, 1) := by decide +kernel
theorem dX6_bestOwn_129 : decode cX6_bestOwn 129 = .ok (.iload 4, 2) := by decide +kernel
theorem dX6_bestOwn_131 : decode cX6_bestOwn 131 = .ok (.iadd, 1) := by decide +kernel
theorem dX6_bestOwn_132 : decode cX6_bestOwn 132 = .ok (.iastore, 1) := by decide +kernel
theorem dX6_bestOwn_133 : decode cX6_bestOwn 133 = .ok (.iload 4, 2) := by decide +kernel
theorem dX6_bestOwn_135 : decode cX6_bestOwn 135 = .ok (.ireturn, 1) := by decide +kernel
theorem dX6_isStrange_0 : decode cX6_isStrange 0 = .ok (.aload_n 0, 1) := by decide +kernel
theorem dX6_isStrange_1 : decode cX6_isStrange 1 = .ok (.aload_n 0, 1) := by decide +kernel
theorem dX6_isStrange_2 : decode cX6_isStrange 2 = .ok (.getfield 7, 3) := by decide +kernel
theorem dX6_isStrange_5 : decode cX6_isStrange 5 = .ok (.iconst 5, 1) := by decide +kernel
theorem dX6_isStrange_6 : decode cX6_isStrange 6 = .ok (.iaload, 1) := by decide +kernel
theorem dX6_isStrange_7 : decode cX6_isStrange 7 = .ok (.iload_n 1, 1) := by decide +kernel
theorem dX6_isStrange_8 : decode cX6_isStrange 8 = .ok (.iload_n 2, 1) := by decide +kernel
theorem dX6_isStrange_9 : decode cX6_isStrange 9 = .ok (.invokevirtual 145, 3) := by decide +kernel
theorem dX6_isStrange_12 : decode cX6_isStrange 12 = .ok (.ifCond .le 7, 3) := by decide +kernel
theorem dX6_isStrange_15 : decode cX6_isStrange 15 = .ok (.iconst 1, 1) := by decide +kernel
theorem dX6_isStrange_16 : decode cX6_isStrange 16 = .ok (.goto 4, 3) := by decide +kernel
theorem dX6_isStrange_19 : decode cX6_isStrange 19 = .ok (.iconst 0, 1) := by decide +kernel
theorem dX6_isStrange_20 : decode cX6_isStrange 20 = .ok (.ireturn, 1) := by decide +kernel
theorem dX6_wouldPlainly_0 : decode cX6_wouldPlainly 0 = .ok (.iload_n 1, 1) := by decide +kernel
theorem dX6_wouldPlainly_1 : decode cX6_wouldPlainly 1 = .ok (.iload_n 2, 1) := by decide +kernel
theorem dX6_wouldPlainly_2 : decode cX6_wouldPlainly 2 = .ok (.iload_n 3, 1) := by decide +kernel
theorem dX6_wouldPlainly_3 : decode cX6_wouldPlainly 3 = .ok (.invokestatic 138, 3) := by decide +kernel
theorem dX6_wouldPlainly_6 : decode cX6_wouldPlainly 6 = .ok (.ifCond .eq 27, 3) := by decide +kernel
theorem dX6_wouldPlainly_9 : decode cX6_wouldPlainly 9 = .ok (.aload_n 0, 1) := by decide +kernel
theorem dX6_wouldPlainly_10 : decode cX6_wouldPlainly 10 = .ok (.iload_n 1, 1) := by decide +kernel
theorem dX6_wouldPlainly_11 : decode cX6_wouldPlainly 11 = .ok (.iload_n 2, 1) := by decide +kernel
theorem dX6_wouldPlainly_12 : decode cX6_wouldPlainly 12 = .ok (.iload_n 3, 1) := by decide +kernel
theorem dX6_wouldPlainly_13 : decode cX6_wouldPlainly 13 = .ok (.invokevirtual 145, 3) := by decide +kernel
theorem dX6_wouldPlainly_16 : decode cX6_wouldPlainly 16 = .ok (.aload_n 0, 1) := by decide +kernel
theorem dX6_wouldPlainly_17 : decode cX6_wouldPlainly 17 = .ok (.getfield 7, 3) := by decide +kernel
theorem dX6_wouldPlainly_20 : decode cX6_wouldPlainly 20 = .ok (.bipush 114, 2) := by decide +kernel
theorem dX6_wouldPlainly_22 : decode cX6_wouldPlainly 22 = .ok (.iload_n 2, 1) := by decide +kernel
theorem dX6_wouldPlainly_23 : decode cX6_wouldPlainly 23 = .ok (.iadd, 1) := by decide +kernel
theorem dX6_wouldPlainly_24 : decode cX6_wouldPlainly 24 = .ok (.iaload, 1) := by decide +kernel
theorem dX6_wouldPlainly_25 : decode cX6_wouldPlainly 25 = .ok (.ineg, 1) := by decide +kernel
theorem dX6_wouldPlainly_26 : decode cX6_wouldPlainly 26 = .ok (.if_icmp .lt 7, 3) := by decide +kernel
theorem dX6_wouldPlainly_29 : decode cX6_wouldPlainly 29 = .ok (.iconst 1, 1) := by decide +kernel
theorem dX6_wouldPlainly_30 : decode cX6_wouldPlainly 30 = .ok (.goto 4, 3) := by decide +kernel
theorem dX6_wouldPlainly_33 : decode cX6_wouldPlainly 33 = .ok (.iconst 0, 1) := by decide +kernel
theorem dX6_wouldPlainly_34 : decode cX6_wouldPlainly 34 = .ok (.ireturn, 1) := by decide +kernel
theorem dX6_would_0 : decode cX6_would 0 = .ok (.aload_n 0, 1) := by decide +kernel
theorem dX6_would_1 : decode cX6_would 1 = .ok (.getfield 7, 3) := by decide +kernel
theorem dX6_would_4 : decode cX6_would 4 = .ok (.bipush 110, 2) := by decide +kernel
theorem dX6_would_6 : decode cX6_would 6 = .ok (.iload_n 2, 1) := by decide +kernel
theorem dX6_would_7 : decode cX6_would 7 = .ok (.iadd, 1) := by decide +kernel
theorem dX6_would_8 : decode cX6_would 8 = .ok (.iaload, 1) := by decide +kernel
theorem dX6_would_9 : decode cX6_would 9 = .ok (.tableswitch 171 1 6 #[39, 59, 67, 74, 109, 148], 39) := by decide +kernel
theorem dX6_would_48 : decode cX6_would 48 = .ok (.aload_n 0, 1) := by decide +kernel
theorem dX6_would_49 : decode cX6_would 49 = .ok (.iload_n 1, 1) := by decide +kernel
theorem dX6_would_50 : decode cX6_would 50 = .ok (.iload_n 2, 1) := by decide +kernel
theorem dX6_would_51 : decode cX6_would 51 = .ok (.invokevirtual 162, 3) := by decide +kernel
theorem dX6_would_54 : decode cX6_would 54 = .ok (.iload_n 3, 1) := by decide +kernel
theorem dX6_would_55 : decode cX6_would 55 = .ok (.ishr, 1) := by decide +kernel
theorem dX6_would_56 : decode cX6_would 56 = .ok (.iconst 1, 1) := by decide +kernel
theorem dX6_would_57 : decode cX6_would 57 = .ok (.iand, 1) := by decide +kernel
theorem dX6_would_58 : decode cX6_would 58 = .ok (.iconst 1, 1) := by decide +kernel
theorem dX6_would_59 : decode cX6_would 59 = .ok (.if_icmp .ne 7, 3) := by decide +kernel
theorem dX6_would_62 : decode cX6_would 62 = .ok (.iconst 1, 1) := by decide +kernel
theorem dX6_would_63 : decode cX6_would 63 = .ok (.goto 4, 3) := by decide +kernel
theorem dX6_would_66 : decode cX6_would 66 = .ok (.iconst 0, 1) := by decide +kernel
theorem dX6_would_67 : decode cX6_would 67 = .ok (.ireturn, 1) := by decide +kernel
theorem dX6_would_68 : decode cX6_would 68 = .ok (.aload_n 0, 1) := by decide +kernel
theorem dX6_would_69 : decode cX6_would 69 = .ok (.iload_n 1, 1) := by decide +kernel
theorem dX6_would_70 : decode cX6_would 70 = .ok (.iload_n 2, 1) := by decide +kernel
theorem dX6_would_71 : decode cX6_would 71 = .ok (.iload_n 3, 1) := by decide +kernel
theorem dX6_would_72 : decode cX6_would 72 = .ok (.invokevirtual 165, 3) := by decide +kernel
theorem dX6_would_75 : decode cX6_would 75 = .ok (.ireturn, 1) := by decide +kernel
theorem dX6_would_76 : decode cX6_would 76 = .ok (.aload_n 0, 1) := by decide +kernel
theorem dX6_would_77 : decode cX6_would 77 = .ok (.iload_n 2, 1) := by decide +kernel
theorem dX6_would_78 : decode cX6_would 78 = .ok (.iload_n 3, 1) := by decide +kernel
theorem dX6_would_79 : decode cX6_would 79 = .ok (.invokevirtual 168, 3) := by decide +kernel
theorem dX6_would_82 : decode cX6_would 82 = .ok (.ireturn, 1) := by decide +kernel
theorem dX6_would_83 : decode cX6_would 83 = .ok (.aload_n 0, 1) := by decide +kernel
theorem dX6_would_84 : decode cX6_would 84 = .ok (.iload_n 1, 1) := by decide +kernel
theorem dX6_would_85 : decode cX6_would 85 = .ok (.iload_n 2, 1) := by decide +kernel
theorem dX6_would_86 : decode cX6_would 86 = .ok (.iload_n 3, 1) := by decide +kernel
theorem dX6_would_87 : decode cX6_would 87 = .ok (.invokevirtual 141, 3) := by decide +kernel
theorem dX6_would_90 : decode cX6_would 90 = .ok (.aload_n 0, 1) := by decide +kernel
theorem dX6_would_91 : decode cX6_would 91 = .ok (.getfield 7, 3) := by decide +kernel
theorem dX6_would_94 : decode cX6_would 94 = .ok (.bipush 114, 2) := by decide +kernel
theorem dX6_would_96 : decode cX6_would 96 = .ok (.iload_n 2, 1) := by decide +kernel
theorem dX6_would_97 : decode cX6_would 97 = .ok (.iadd, 1) := by decide +kernel
theorem dX6_would_98 : decode cX6_would 98 = .ok (.iaload, 1) := by decide +kernel
theorem dX6_would_99 : decode cX6_would 99 = .ok (.if_icmp .ge 13, 3) := by decide +kernel
theorem dX6_would_102 : decode cX6_would 102 = .ok (.aload_n 0, 1) := by decide +kernel
theorem dX6_would_103 : decode cX6_would 103 = .ok (.iload_n 1, 1) := by decide +kernel
theorem dX6_would_104 : decode cX6_would 104 = .ok (.iload_n 2, 1) := by decide +kernel
theorem dX6_would_105 : decode cX6_would 105 = .ok (.iload_n 3, 1) := by decide +kernel
theorem dX6_would_106 : decode cX6_would 106 = .ok (.invokevirtual 165, 3) := by decide +kernel
theorem dX6_would_109 : decode cX6_would 109 = .ok (.ifCond .eq 7, 3) := by decide +kernel
theorem dX6_would_112 : decode cX6_would 112 = .ok (.iconst 1, 1) := by decide +kernel
theorem dX6_would_113 : decode cX6_would 113 = .ok (.goto 4, 3) := by decide +kernel
theorem dX6_would_116 : decode cX6_would 116 = .ok (.iconst 0, 1) := by decide +kernel
theorem dX6_would_117 : decode cX6_would 117 = .ok (.ireturn, 1) := by decide +kernel
theorem dX6_would_118 : decode cX6_would 118 = .ok (.iload_n 3, 1) := by decide +kernel
theorem dX6_would_119 : decode cX6_would 119 = .ok (.aload_n 0, 1) := by decide +kernel
theorem dX6_would_120 : decode cX6_would 120 = .ok (.getfield 7, 3) := by decide +kernel
theorem dX6_would_123 : decode cX6_would 123 = .ok (.bipush 114, 2) := by decide +kernel
theorem dX6_would_125 : decode cX6_would 125 = .ok (.iload_n 2, 1) := by decide +kernel
theorem dX6_would_126 : decode cX6_would 126 = .ok (.iadd, 1) := by decide +kernel
theorem dX6_would_127 : decode cX6_would 127 = .ok (.iaload, 1) := by decide +kernel
theorem dX6_would_128 : decode cX6_would 128 = .ok (.iconst 3, 1) := by decide +kernel
theorem dX6_would_129 : decode cX6_would 129 = .ok (.irem, 1) := by decide +kernel
theorem dX6_would_130 : decode cX6_would 130 = .ok (.if_icmp .ne 20, 3) := by decide +kernel
theorem dX6_would_133 : decode cX6_would 133 = .ok (.iload_n 1, 1) := by decide +kernel
theorem dX6_would_134 : decode cX6_would 134 = .ok (.iload_n 2, 1) := by decide +kernel
theorem dX6_would_135 : decode cX6_would 135 = .ok (.iload_n 3, 1) := by decide +kernel
theorem dX6_would_136 : decode cX6_would 136 = .ok (.invokestatic 138, 3) := by decide +kernel
theorem dX6_would_139 : decode cX6_would 139 = .ok (.ifCond .ne 7, 3) := by decide +kernel
theorem dX6_would_142 : decode cX6_would 142 = .ok (.iconst 1, 1) := by decide +kernel
theorem dX6_would_143 : decode cX6_would 143 = .ok (.goto 13, 3) := by decide +kernel
theorem dX6_would_146 : decode cX6_would 146 = .ok (.iconst 0, 1) := by decide +kernel
theorem dX6_would_147 : decode cX6_would 147 = .ok (.goto 9, 3) := by decide +kernel
theorem dX6_would_150 : decode cX6_would 150 = .ok (.aload_n 0, 1) := by decide +kernel
theorem dX6_would_151 : decode cX6_would 151 = .ok (.iload_n 2, 1) := by decide +kernel
theorem dX6_would_152 : decode cX6_would 152 = .ok (.iload_n 3, 1) := by decide +kernel
theorem dX6_would_153 : decode cX6_would 153 = .ok (.invokevirtual 168, 3) := by decide +kernel
theorem dX6_would_156 : decode cX6_would 156 = .ok (.ireturn, 1) := by decide +kernel
theorem dX6_would_157 : decode cX6_would 157 = .ok (.aload_n 0, 1) := by decide +kernel
theorem dX6_would_158 : decode cX6_would 158 = .ok (.getfield 7, 3) := by decide +kernel
theorem dX6_would_161 : decode cX6_would 161 = .ok (.bipush 118, 2) := by decide +kernel
theorem dX6_would_163 : decode cX6_would 163 = .ok (.iload_n 2, 1) := by decide +kernel
theorem dX6_would_164 : decode cX6_would 164 = .ok (.iadd, 1) := by decide +kernel
theorem dX6_would_165 : decode cX6_would 165 = .ok (.iaload, 1) := by decide +kernel
theorem dX6_would_166 : decode cX6_would 166 = .ok (.iload_n 3, 1) := by decide +kernel
theorem dX6_would_167 : decode cX6_would 167 = .ok (.ishr, 1) := by decide +kernel
theorem dX6_would_168 : decode cX6_would 168 = .ok (.iconst 1, 1) := by decide +kernel
theorem dX6_would_169 : decode cX6_would 169 = .ok (.iand, 1) := by decide +kernel
theorem dX6_would_170 : decode cX6_would 170 = .ok (.iconst 1, 1) := by decide +kernel
theorem dX6_would_171 : decode cX6_would 171 = .ok (.if_icmp .ne 7, 3) := by decide +kernel
theorem dX6_would_174 : decode cX6_would 174 = .ok (.iconst 1, 1) := by decide +kernel
theorem dX6_would_175 : decode cX6_would 175 = .ok (.goto 4, 3) := by decide +kernel
theorem dX6_would_178 : decode cX6_would 178 = .ok (.iconst 0, 1) := by decide +kernel
theorem dX6_would_179 : decode cX6_would 179 = .ok (.ireturn, 1) := by decide +kernel
theorem dX6_would_180 : decode cX6_would 180 = .ok (.aload_n 0, 1) := by decide +kernel
theorem dX6_would_181 : decode cX6_would 181 = .ok (.iload_n 1, 1) := by decide +kernel
theorem dX6_would_182 : decode cX6_would 182 = .ok (.iload_n 2, 1) := by decide +kernel
theorem dX6_would_183 : decode cX6_would 183 = .ok (.iload_n 3, 1) := by decide +kernel
theorem dX6_would_184 : decode cX6_would 184 = .ok (.invokevirtual 145, 3) := by decide +kernel
theorem dX6_would_187 : decode cX6_would 187 = .ok (.ifCond .le 7, 3) := by decide +kernel
theorem dX6_would_190 : decode cX6_would 190 = .ok (.iconst 1, 1) := by decide +kernel
theorem dX6_would_191 : decode cX6_would 191 = .ok (.goto 4, 3) := by decide +kernel
theorem dX6_would_194 : decode cX6_would 194 = .ok (.iconst 0, 1) := by decide +kernel
theorem dX6_would_195 : decode cX6_would 195 = .ok (.ireturn, 1) := by decide +kernel
theorem dX6_answerTo_0 : decode cX6_answerTo 0 = .ok (.iconst 0, 1) := by decide +kernel
theorem dX6_answerTo_1 : decode cX6_answerTo 1 = .ok (.istore_n 2, 1) := by decide +kernel
theorem dX6_answerTo_2 : decode cX6_answerTo 2 = .ok (.iconst 0, 1) := by decide +kernel
theorem dX6_answerTo_3 : decode cX6_answerTo 3 = .ok (.istore_n 3, 1) := by decide +kernel
theorem dX6_answerTo_4 : decode cX6_answerTo 4 = .ok (.iload_n 3, 1) := by decide +kernel
theorem dX6_answerTo_5 : decode cX6_answerTo 5 = .ok (.aload_n 0, 1) := by decide +kernel
theorem dX6_answerTo_6 : decode cX6_answerTo 6 = .ok (.getfield 7, 3) := by decide +kernel
theorem dX6_answerTo_9 : decode cX6_answerTo 9 = .ok (.iconst 0, 1) := by decide +kernel
theorem dX6_answerTo_10 : decode cX6_answerTo 10 = .ok (.iaload, 1) := by decide +kernel
theorem dX6_answerTo_11 : decode cX6_answerTo 11 = .ok (.if_icmp .ge 50, 3) := by decide +kernel
theorem dX6_answerTo_14 : decode cX6_answerTo 14 = .ok (.iconst 0, 1) := by decide +kernel
theorem dX6_answerTo_15 : decode cX6_answerTo 15 = .ok (.istore 4, 2) := by decide +kernel
theorem dX6_answerTo_17 : decode cX6_answerTo 17 = .ok (.iload 4, 2) := by decide +kernel
theorem dX6_answerTo_19 : decode cX6_answerTo 19 = .ok (.iconst 3, 1) := by decide +kernel
theorem dX6_answerTo_20 : decode cX6_answerTo 20 = .ok (.if_icmp .ge 35, 3) := by decide +kernel
theorem dX6_answerTo_23 : decode cX6_answerTo 23 = .ok (.iload_n 2, 1) := by decide +kernel
theorem dX6_answerTo_24 : decode cX6_answerTo 24 = .ok (.aload_n 0, 1) := by decide +kernel
theorem dX6_answerTo_25 : decode cX6_answerTo 25 = .ok (.iload_n 1, 1) := by decide +kernel
theorem dX6_answerTo_26 : decode cX6_answerTo 26 = .ok (.iload_n 3, 1) := by decide +kernel
theorem dX6_answerTo_27 : decode cX6_answerTo 27 = .ok (.iload 4, 2) := by decide +kernel
theorem dX6_answerTo_29 : decode cX6_answerTo 29 = .ok (.invokevirtual 172, 3) := by decide +kernel
theorem dX6_answerTo_32 : decode cX6_answerTo 32 = .ok (.ifCond .eq 14, 3) := by decide +kernel
theorem dX6_answerTo_35 : decode cX6_answerTo 35 = .ok (.iconst 1, 1) := by decide +kernel
theorem dX6_answerTo_36 : decode cX6_answerTo 36 = .ok (.iconst 3, 1) := by decide +kernel
theorem dX6_answerTo_37 : decode cX6_answerTo 37 = .ok (.iload_n 3, 1) := by decide +kernel
theorem dX6_answerTo_38 : decode cX6_answerTo 38 = .ok (.imul, 1) := by decide +kernel
theorem dX6_answerTo_39 : decode cX6_answerTo 39 = .ok (.iload 4, 2) := by decide +kernel
theorem dX6_answerTo_41 : decode cX6_answerTo 41 = .ok (.iadd, 1) := by decide +kernel
theorem dX6_answerTo_42 : decode cX6_answerTo 42 = .ok (.ishl, 1) := by decide +kernel
theorem dX6_answerTo_43 : decode cX6_answerTo 43 = .ok (.goto 4, 3) := by decide +kernel
theorem dX6_answerTo_46 : decode cX6_answerTo 46 = .ok (.iconst 0, 1) := by decide +kernel
theorem dX6_answerTo_47 : decode cX6_answerTo 47 = .ok (.ior, 1) := by decide +kernel
theorem dX6_answerTo_48 : decode cX6_answerTo 48 = .ok (.istore_n 2, 1) := by decide +kernel
theorem dX6_answerTo_49 : decode cX6_answerTo 49 = .ok (.iinc 4 1, 3) := by decide +kernel
theorem dX6_answerTo_52 : decode cX6_answerTo 52 = .ok (.goto (-35), 3) := by decide +kernel
theorem dX6_answerTo_55 : decode cX6_answerTo 55 = .ok (.iinc 3 1, 3) := by decide +kernel
theorem dX6_answerTo_58 : decode cX6_answerTo 58 = .ok (.goto (-54), 3) := by decide +kernel
theorem dX6_answerTo_61 : decode cX6_answerTo 61 = .ok (.iload_n 2, 1) := by decide +kernel
theorem dX6_answerTo_62 : decode cX6_answerTo 62 = .ok (.ireturn, 1) := by decide +kernel
theorem dX6_firstOtherwise_0 : decode cX6_firstOtherwise 0 = .ok (.iconst 0, 1) := by decide +kernel
theorem dX6_firstOtherwise_1 : decode cX6_firstOtherwise 1 = .ok (.istore_n 2, 1) := by decide +kernel
theorem dX6_firstOtherwise_2 : decode cX6_firstOtherwise 2 = .ok (.iload_n 2, 1) := by decide +kernel
theorem dX6_firstOtherwise_3 : decode cX6_firstOtherwise 3 = .ok (.aload_n 0, 1) := by decide +kernel
theorem dX6_firstOtherwise_4 : decode cX6_firstOtherwise 4 = .ok (.getfield 7, 3) := by decide +kernel
theorem dX6_firstOtherwise_7 : decode cX6_firstOtherwise 7 = .ok (.iconst 0, 1) := by decide +kernel
theorem dX6_firstOtherwise_8 : decode cX6_firstOtherwise 8 = .ok (.iaload, 1) := by decide +kernel
theorem dX6_firstOtherwise_9 : decode cX6_firstOtherwise 9 = .ok (.if_icmp .ge 45, 3) := by decide +kernel
theorem dX6_firstOtherwise_12 : decode cX6_firstOtherwise 12 = .ok (.iconst 0, 1) := by decide +kernel
theorem dX6_firstOtherwise_13 : decode cX6_firstOtherwise 13 = .ok (.istore_n 3, 1) := by decide +kernel
theorem dX6_firstOtherwise_14 : decode cX6_firstOtherwise 14 = .ok (.iload_n 3, 1) := by decide +kernel
theorem dX6_firstOtherwise_15 : decode cX6_firstOtherwise 15 = .ok (.iconst 3, 1) := by decide +kernel
theorem dX6_firstOtherwise_16 : decode cX6_firstOtherwise 16 = .ok (.if_icmp .ge 32, 3) := by decide +kernel
theorem dX6_firstOtherwise_19 : decode cX6_firstOtherwise 19 = .ok (.aload_n 0, 1) := by decide +kernel
theorem dX6_firstOtherwise_20 : decode cX6_firstOtherwise 20 = .ok (.iload_n 1, 1) := by decide +kernel
theorem dX6_firstOtherwise_21 : decode cX6_firstOtherwise 21 = .ok (.iload_n 2, 1) := by decide +kernel
theorem dX6_firstOtherwise_22 : decode cX6_firstOtherwise 22 = .ok (.iload_n 3, 1) := by decide +kernel
theorem dX6_firstOtherwise_23 : decode cX6_firstOtherwise 23 = .ok (.invokevirtual 172, 3) := by decide +kernel
theorem dX6_firstOtherwise_26 : decode cX6_firstOtherwise 26 = .ok (.iload_n 1, 1) := by decide +kernel
theorem dX6_firstOtherwise_27 : decode cX6_firstOtherwise 27 = .ok (.iload_n 2, 1) := by decide +kernel
theorem dX6_firstOtherwise_28 : decode cX6_firstOtherwise 28 = .ok (.iload_n 3, 1) := by decide +kernel
theorem dX6_firstOtherwise_29 : decode cX6_firstOtherwise 29 = .ok (.invokestatic 138, 3) := by decide +kernel
theorem dX6_firstOtherwise_32 : decode cX6_firstOtherwise 32 = .ok (.if_icmp .eq 10, 3) := by decide +kernel
theorem dX6_firstOtherwise_35 : decode cX6_firstOtherwise 35 = .ok (.bipush 10, 2) := by decide +kernel
theorem dX6_firstOtherwise_37 : decode cX6_firstOtherwise 37 = .ok (.iload_n 2, 1) := by decide +kernel
theorem dX6_firstOtherwise_38 : decode cX6_firstOtherwise 38 = .ok (.imul, 1) := by decide +kernel
theorem dX6_firstOtherwise_39 : decode cX6_firstOtherwise 39 = .ok (.iload_n 3, 1) := by decide +kernel
theorem dX6_firstOtherwise_40 : decode cX6_firstOtherwise 40 = .ok (.iadd, 1) := by decide +kernel
theorem dX6_firstOtherwise_41 : decode cX6_firstOtherwise 41 = .ok (.ireturn, 1) := by decide +kernel
theorem dX6_firstOtherwise_42 : decode cX6_firstOtherwise 42 = .ok (.iinc 3 1, 3) := by decide +kernel
theorem dX6_firstOtherwise_45 : decode cX6_firstOtherwise 45 = .ok (.goto (-31), 3) := by decide +kernel
theorem dX6_firstOtherwise_48 : decode cX6_firstOtherwise 48 = .ok (.iinc 2 1, 3) := by decide +kernel
theorem dX6_firstOtherwise_51 : decode cX6_firstOtherwise 51 = .ok (.goto (-49), 3) := by decide +kernel
theorem dX6_firstOtherwise_54 : decode cX6_firstOtherwise 54 = .ok (.bipush (-5), 2) := by decide +kernel
theorem dX6_firstOtherwise_56 : decode cX6_firstOtherwise 56 = .ok (.ireturn, 1) := by decide +kernel
theorem dX6_stands_0 : decode cX6_stands 0 = .ok (.aload_n 0, 1) := by decide +kernel
theorem dX6_stands_1 : decode cX6_stands 1 = .ok (.iload_n 1, 1) := by decide +kernel
theorem dX6_stands_2 : decode cX6_stands 2 = .ok (.invokevirtual 175, 3) := by decide +kernel
theorem dX6_stands_5 : decode cX6_stands 5 = .ok (.bipush (-5), 2) := by decide +kernel
theorem dX6_stands_7 : decode cX6_stands 7 = .ok (.if_icmp .ne 7, 3) := by decide +kernel
theorem dX6_stands_10 : decode cX6_stands 10 = .ok (.iconst 1, 1) := by decide +kernel
theorem dX6_stands_11 : decode cX6_stands 11 = .ok (.goto 4, 3) := by decide +kernel
theorem dX6_stands_14 : decode cX6_stands 14 = .ok (.iconst 0, 1) := by decide +kernel
theorem dX6_stands_15 : decode cX6_stands 15 = .ok (.ireturn, 1) := by decide +kernel
theorem dX6_by_0 : decode cX6_by 0 = .ok (.aload_n 0, 1) := by decide +kernel
theorem dX6_by_1 : decode cX6_by 1 = .ok (.iload_n 2, 1) := by decide +kernel
theorem dX6_by_2 : decode cX6_by 2 = .ok (.invokevirtual 152, 3) := by decide +kernel
theorem dX6_by_5 : decode cX6_by 5 = .ok (.ifCond .eq 20, 3) := by decide +kernel
theorem dX6_by_8 : decode cX6_by 8 = .ok (.iload_n 3, 1) := by decide +kernel
theorem dX6_by_9 : decode cX6_by 9 = .ok (.invokestatic 178, 3) := by decide +kernel
theorem dX6_by_12 : decode cX6_by 12 = .ok (.ifCond .eq 13, 3) := by decide +kernel
theorem dX6_by_15 : decode cX6_by 15 = .ok (.iload 4, 2) := by decide +kernel
theorem dX6_by_17 : decode cX6_by 17 = .ok (.iconst 0, 1) := by decide +kernel
theorem dX6_by_18 : decode cX6_by 18 = .ok (.iconst 2, 1) := by decide +kernel
theorem dX6_by_19 : decode cX6_by 19 = .ok (.invokestatic 45, 3) := by decide +kernel
theorem dX6_by_22 : decode cX6_by 22 = .ok (.ifCond .ne 7, 3) := by decide +kernel
theorem dX6_by_25 : decode cX6_by 25 = .ok (.sipush (-10001), 3) := by decide +kernel
theorem dX6_by_28 : decode cX6_by 28 = .ok (.ireturn, 1) := by decide +kernel
theorem dX6_by_29 : decode cX6_by 29 = .ok (.aload_n 0, 1) := by decide +kernel
theorem dX6_by_30 : decode cX6_by 30 = .ok (.iload_n 1, 1) := by decide +kernel
theorem dX6_by_31 : decode cX6_by 31 = .ok (.invokevirtual 156, 3) := by decide +kernel
theorem dX6_by_34 : decode cX6_by 34 = .ok (.ifCond .ne 7, 3) := by decide +kernel
theorem dX6_by_37 : decode cX6_by 37 = .ok (.sipush (-10002), 3) := by decide +kernel
theorem dX6_by_40 : decode cX6_by 40 = .ok (.ireturn, 1) := by decide +kernel
theorem dX6_by_41 : decode cX6_by 41 = .ok (.aload_n 0, 1) := by decide +kernel
theorem dX6_by_42 : decode cX6_by 42 = .ok (.invokevirtual 181, 3) := by decide +kernel
theorem dX6_by_45 : decode cX6_by 45 = .ok (.iload 4, 2) := by decide +kernel
theorem dX6_by_47 : decode cX6_by 47 = .ok (.ifCond .ne 13, 3) := by decide +kernel
theorem dX6_by_50 : decode cX6_by 50 = .ok (.aload_n 0, 1) := by decide +kernel
theorem dX6_by_51 : decode cX6_by 51 = .ok (.iload_n 1, 1) := by decide +kernel
theorem dX6_by_52 : decode cX6_by 52 = .ok (.iload_n 2, 1) := by decide +kernel
theorem dX6_by_53 : decode cX6_by 53 = .ok (.iload_n 3, 1) := by decide +kernel
theorem dX6_by_54 : decode cX6_by 54 = .ok (.invokevirtual 145, 3) := by decide +kernel
theorem dX6_by_57 : decode cX6_by 57 = .ok (.goto 33, 3) := by decide +kernel
theorem dX6_by_60 : decode cX6_by 60 = .ok (.iload 4, 2) := by decide +kernel
theorem dX6_by_62 : decode cX6_by 62 = .ok (.iconst 1, 1) := by decide +kernel
theorem dX6_by_63 : decode cX6_by 63 = .ok (.if_icmp .ne 21, 3) := by decide +kernel
theorem dX6_by_66 : decode cX6_by 66 = .ok (.aload_n 0, 1) := by decide +kernel
theorem dX6_by_67 : decode cX6_by 67 = .ok (.iload_n 1, 1) := by decide +kernel
theorem dX6_by_68 : decode cX6_by 68 = .ok (.iload_n 2, 1) := by decide +kernel
theorem dX6_by_69 : decode cX6_by 69 = .ok (.iload_n 3, 1) := by decide +kernel
theorem dX6_by_70 : decode cX6_by 70 = .ok (.invokevirtual 172, 3) := by decide +kernel
theorem dX6_by_73 : decode cX6_by 73 = .ok (.ifCond .eq 7, 3) := by decide +kernel
theorem dX6_by_76 : decode cX6_by 76 = .ok (.iconst 1, 1) := by decide +kernel
theorem dX6_by_77 : decode cX6_by 77 = .ok (.goto 13, 3) := by decide +kernel
theorem dX6_by_80 : decode cX6_by 80 = .ok (.iconst 0, 1) := by decide +kernel
theorem dX6_by_81 : decode cX6_by 81 = .ok (.goto 9, 3) := by decide +kernel
theorem dX6_by_84 : decode cX6_by 84 = .ok (.aload_n 0, 1) := by decide +kernel
theorem dX6_by_85 : decode cX6_by 85 = .ok (.iload_n 1, 1) := by decide +kernel
theorem dX6_by_86 : decode cX6_by 86 = .ok (.iload_n 2, 1) := by decide +kernel
theorem dX6_by_87 : decode cX6_by 87 = .ok (.invokevirtual 148, 3) := by decide +kernel
theorem dX6_by_90 : decode cX6_by 90 = .ok (.ireturn, 1) := by decide +kernel
theorem dX6_day_0 : decode cX6_day 0 = .ok (.iload_n 2, 1) := by decide +kernel
theorem dX6_day_1 : decode cX6_day 1 = .ok (.iconst 0, 1) := by decide +kernel
theorem dX6_day_2 : decode cX6_day 2 = .ok (.iconst 2, 1) := by decide +kernel
theorem dX6_day_3 : decode cX6_day 3 = .ok (.invokestatic 45, 3) := by decide +kernel
theorem dX6_day_6 : decode cX6_day 6 = .ok (.ifCond .ne 7, 3) := by decide +kernel
theorem dX6_day_9 : decode cX6_day 9 = .ok (.sipush (-10001), 3) := by decide +kernel
theorem dX6_day_12 : decode cX6_day 12 = .ok (.ireturn, 1) := by decide +kernel
theorem dX6_day_13 : decode cX6_day 13 = .ok (.aload_n 0, 1) := by decide +kernel
theorem dX6_day_14 : decode cX6_day 14 = .ok (.iload_n 1, 1) := by decide +kernel
theorem dX6_day_15 : decode cX6_day 15 = .ok (.invokevirtual 156, 3) := by decide +kernel
theorem dX6_day_18 : decode cX6_day 18 = .ok (.ifCond .ne 7, 3) := by decide +kernel
theorem dX6_day_21 : decode cX6_day 21 = .ok (.sipush (-10002), 3) := by decide +kernel
theorem dX6_day_24 : decode cX6_day 24 = .ok (.ireturn, 1) := by decide +kernel
theorem dX6_day_25 : decode cX6_day 25 = .ok (.aload_n 0, 1) := by decide +kernel
theorem dX6_day_26 : decode cX6_day 26 = .ok (.invokevirtual 181, 3) := by decide +kernel
theorem dX6_day_29 : decode cX6_day 29 = .ok (.iload_n 2, 1) := by decide +kernel
theorem dX6_day_30 : decode cX6_day 30 = .ok (.ifCond .ne 11, 3) := by decide +kernel
theorem dX6_day_33 : decode cX6_day 33 = .ok (.aload_n 0, 1) := by decide +kernel
theorem dX6_day_34 : decode cX6_day 34 = .ok (.iload_n 1, 1) := by decide +kernel
theorem dX6_day_35 : decode cX6_day 35 = .ok (.invokevirtual 175, 3) := by decide +kernel
theorem dX6_day_38 : decode cX6_day 38 = .ok (.goto 21, 3) := by decide +kernel
theorem dX6_day_41 : decode cX6_day 41 = .ok (.iload_n 2, 1) := by decide +kernel
theorem dX6_day_42 : decode cX6_day 42 = .ok (.iconst 1, 1) := by decide +kernel
theorem dX6_day_43 : decode cX6_day 43 = .ok (.if_icmp .ne 11, 3) := by decide +kernel
theorem dX6_day_46 : decode cX6_day 46 = .ok (.aload_n 0, 1) := by decide +kernel
theorem dX6_day_47 : decode cX6_day 47 = .ok (.iload_n 1, 1) := by decide +kernel
theorem dX6_day_48 : decode cX6_day 48 = .ok (.invokevirtual 184, 3) := by decide +kernel
theorem dX6_day_51 : decode cX6_day 51 = .ok (.goto 8, 3) := by decide +kernel
theorem dX6_day_54 : decode cX6_day 54 = .ok (.aload_n 0, 1) := by decide +kernel
theorem dX6_day_55 : decode cX6_day 55 = .ok (.iload_n 1, 1) := by decide +kernel
theorem dX6_day_56 : decode cX6_day 56 = .ok (.invokevirtual 187, 3) := by decide +kernel
theorem dX6_day_59 : decode cX6_day 59 = .ok (.ireturn, 1) := by decide +kernel
theorem dX6_looksThrough_0 : decode cX6_looksThrough 0 = .ok (.aload_n 0, 1) := by decide +kernel
theorem dX6_looksThrough_1 : decode cX6_looksThrough 1 = .ok (.invokevirtual 181, 3) := by decide +kernel
theorem dX6_looksThrough_4 : decode cX6_looksThrough 4 = .ok (.aload_n 0, 1) := by decide +kernel
theorem dX6_looksThrough_5 : decode cX6_looksThrough 5 = .ok (.iconst 0, 1) := by decide +kernel
theorem dX6_looksThrough_6 : decode cX6_looksThrough 6 = .ok (.putfield 190, 3) := by decide +kernel
theorem dX6_looksThrough_9 : decode cX6_looksThrough 9 = .ok (.aload_n 0, 1) := by decide +kernel
theorem dX6_looksThrough_10 : decode cX6_looksThrough 10 = .ok (.bipush (-5), 2) := by decide +kernel
theorem dX6_looksThrough_12 : decode cX6_looksThrough 12 = .ok (.putfield 193, 3) := by decide +kernel
theorem dX6_looksThrough_15 : decode cX6_looksThrough 15 = .ok (.aload_n 0, 1) := by decide +kernel
theorem dX6_looksThrough_16 : decode cX6_looksThrough 16 = .ok (.bipush (-5), 2) := by decide +kernel
theorem dX6_looksThrough_18 : decode cX6_looksThrough 18 = .ok (.putfield 196, 3) := by decide +kernel
theorem dX6_looksThrough_21 : decode cX6_looksThrough 21 = .ok (.aload_n 0, 1) := by decide +kernel
theorem dX6_looksThrough_22 : decode cX6_looksThrough 22 = .ok (.bipush (-5), 2) := by decide +kernel
theorem dX6_looksThrough_24 : decode cX6_looksThrough 24 = .ok (.putfield 199, 3) := by decide +kernel
theorem dX6_looksThrough_27 : decode cX6_looksThrough 27 = .ok (.aload_n 0, 1) := by decide +kernel
theorem dX6_looksThrough_28 : decode cX6_looksThrough 28 = .ok (.iconst 0, 1) := by decide +kernel
theorem dX6_looksThrough_29 : decode cX6_looksThrough 29 = .ok (.putfield 202, 3) := by decide +kernel
theorem dX6_looksThrough_32 : decode cX6_looksThrough 32 = .ok (.iconst 0, 1) := by decide +kernel
theorem dX6_looksThrough_33 : decode cX6_looksThrough 33 = .ok (.istore_n 1, 1) := by decide +kernel
theorem dX6_looksThrough_34 : decode cX6_looksThrough 34 = .ok (.iload_n 1, 1) := by decide +kernel
theorem dX6_looksThrough_35 : decode cX6_looksThrough 35 = .ok (.aload_n 0, 1) := by decide +kernel
theorem dX6_looksThrough_36 : decode cX6_looksThrough 36 = .ok (.invokevirtual 49, 3) := by decide +kernel
theorem dX6_looksThrough_39 : decode cX6_looksThrough 39 = .ok (.if_icmp .ge 112, 3) := by decide +kernel
theorem dX6_looksThrough_42 : decode cX6_looksThrough 42 = .ok (.aload_n 0, 1) := by decide +kernel
theorem dX6_looksThrough_43 : decode cX6_looksThrough 43 = .ok (.iload_n 1, 1) := by decide +kernel
theorem dX6_looksThrough_44 : decode cX6_looksThrough 44 = .ok (.invokevirtual 205, 3) := by decide +kernel
theorem dX6_looksThrough_47 : decode cX6_looksThrough 47 = .ok (.ifCond .eq 98, 3) := by decide +kernel
theorem dX6_looksThrough_50 : decode cX6_looksThrough 50 = .ok (.aload_n 0, 1) := by decide +kernel
theorem dX6_looksThrough_51 : decode cX6_looksThrough 51 = .ok (.iload_n 1, 1) := by decide +kernel
theorem dX6_looksThrough_52 : decode cX6_looksThrough 52 = .ok (.invokevirtual 187, 3) := by decide +kernel
theorem dX6_looksThrough_55 : decode cX6_looksThrough 55 = .ok (.istore_n 2, 1) := by decide +kernel
theorem dX6_looksThrough_56 : decode cX6_looksThrough 56 = .ok (.aload_n 0, 1) := by decide +kernel
theorem dX6_looksThrough_57 : decode cX6_looksThrough 57 = .ok (.getfield 199, 3) := by decide +kernel
theorem dX6_looksThrough_60 : decode cX6_looksThrough 60 = .ok (.bipush (-5), 2) := by decide +kernel
theorem dX6_looksThrough_62 : decode cX6_looksThrough 62 = .ok (.if_icmp .eq 11, 3) := by decide +kernel
theorem dX6_looksThrough_65 : decode cX6_looksThrough 65 = .ok (.iload_n 2, 1) := by decide +kernel
theorem dX6_looksThrough_66 : decode cX6_looksThrough 66 = .ok (.aload_n 0, 1) := by decide +kernel
theorem dX6_looksThrough_67 : decode cX6_looksThrough 67 = .ok (.getfield 202, 3) := by decide +kernel
theorem dX6_looksThrough_70 : decode cX6_looksThrough 70 = .ok (.if_icmp .le 7, 3) := by decide +kernel
theorem dX6_looksThrough_73 : decode cX6_looksThrough 73 = .ok (.iconst 1, 1) := by decide +kernel
theorem dX6_looksThrough_74 : decode cX6_looksThrough 74 = .ok (.goto 4, 3) := by decide +kernel
theorem dX6_looksThrough_77 : decode cX6_looksThrough 77 = .ok (.iconst 0, 1) := by decide +kernel
theorem dX6_looksThrough_78 : decode cX6_looksThrough 78 = .ok (.istore_n 3, 1) := by decide +kernel
theorem dX6_looksThrough_79 : decode cX6_looksThrough 79 = .ok (.aload_n 0, 1) := by decide +kernel
theorem dX6_looksThrough_80 : decode cX6_looksThrough 80 = .ok (.iload_n 3, 1) := by decide +kernel
theorem dX6_looksThrough_81 : decode cX6_looksThrough 81 = .ok (.ifCond .eq 7, 3) := by decide +kernel
theorem dX6_looksThrough_84 : decode cX6_looksThrough 84 = .ok (.iload_n 1, 1) := by decide +kernel
theorem dX6_looksThrough_85 : decode cX6_looksThrough 85 = .ok (.goto 7, 3) := by decide +kernel
theorem dX6_looksThrough_88 : decode cX6_looksThrough 88 = .ok (.aload_n 0, 1) := by decide +kernel
theorem dX6_looksThrough_89 : decode cX6_looksThrough 89 = .ok (.getfield 199, 3) := by decide +kernel
theorem dX6_looksThrough_92 : decode cX6_looksThrough 92 = .ok (.putfield 199, 3) := by decide +kernel
theorem dX6_looksThrough_95 : decode cX6_looksThrough 95 = .ok (.aload_n 0, 1) := by decide +kernel
theorem dX6_looksThrough_96 : decode cX6_looksThrough 96 = .ok (.iload_n 3, 1) := by decide +kernel
theorem dX6_looksThrough_97 : decode cX6_looksThrough 97 = .ok (.ifCond .eq 7, 3) := by decide +kernel
theorem dX6_looksThrough_100 : decode cX6_looksThrough 100 = .ok (.iload_n 2, 1) := by decide +kernel
theorem dX6_looksThrough_101 : decode cX6_looksThrough 101 = .ok (.goto 7, 3) := by decide +kernel
theorem dX6_looksThrough_104 : decode cX6_looksThrough 104 = .ok (.aload_n 0, 1) := by decide +kernel
theorem dX6_looksThrough_105 : decode cX6_looksThrough 105 = .ok (.getfield 202, 3) := by decide +kernel
theorem dX6_looksThrough_108 : decode cX6_looksThrough 108 = .ok (.putfield 202, 3) := by decide +kernel
theorem dX6_looksThrough_111 : decode cX6_looksThrough 111 = .ok (.aload_n 0, 1) := by decide +kernel
theorem dX6_looksThrough_112 : decode cX6_looksThrough 112 = .ok (.aload_n 0, 1) := by decide +kernel
theorem dX6_looksThrough_113 : decode cX6_looksThrough 113 = .ok (.getfield 190, 3) := by decide +kernel
theorem dX6_looksThrough_116 : decode cX6_looksThrough 116 = .ok (.ifCond .ne 7, 3) := by decide +kernel
theorem dX6_looksThrough_119 : decode cX6_looksThrough 119 = .ok (.iload_n 1, 1) := by decide +kernel
theorem dX6_looksThrough_120 : decode cX6_looksThrough 120 = .ok (.goto 7, 3) := by decide +kernel
theorem dX6_looksThrough_123 : decode cX6_looksThrough 123 = .ok (.aload_n 0, 1) := by decide +kernel
theorem dX6_looksThrough_124 : decode cX6_looksThrough 124 = .ok (.getfield 193, 3) := by decide +kernel
theorem dX6_looksThrough_127 : decode cX6_looksThrough 127 = .ok (.putfield 193, 3) := by decide +kernel
theorem dX6_looksThrough_130 : decode cX6_looksThrough 130 = .ok (.aload_n 0, 1) := by decide +kernel
theorem dX6_looksThrough_131 : decode cX6_looksThrough 131 = .ok (.iload_n 1, 1) := by decide +kernel
theorem dX6_looksThrough_132 : decode cX6_looksThrough 132 = .ok (.putfield 196, 3) := by decide +kernel
theorem dX6_looksThrough_135 : decode cX6_looksThrough 135 = .ok (.aload_n 0, 1) := by decide +kernel
theorem dX6_looksThrough_136 : decode cX6_looksThrough 136 = .ok (.dup, 1) := by decide +kernel
theorem dX6_looksThrough_137 : decode cX6_looksThrough 137 = .ok (.getfield 190, 3) := by decide +kernel
theorem dX6_looksThrough_140 : decode cX6_looksThrough 140 = .ok (.iconst 1, 1) := by decide +kernel
theorem dX6_looksThrough_141 : decode cX6_looksThrough 141 = .ok (.iadd, 1) := by decide +kernel
theorem dX6_looksThrough_142 : decode cX6_looksThrough 142 = .ok (.putfield 190, 3) := by decide +kernel
theorem dX6_looksThrough_145 : decode cX6_looksThrough 145 = .ok (.iinc 1 1, 3) := by decide +kernel
theorem dX6_looksThrough_148 : decode cX6_looksThrough 148 = .ok (.goto (-114), 3) := by decide +kernel
theorem dX6_looksThrough_151 : decode cX6_looksThrough 151 = .ok (.return_, 1) := by decide +kernel
theorem dX6_all_0 : decode cX6_all 0 = .ok (.iload_n 1, 1) := by decide +kernel
theorem dX6_all_1 : decode cX6_all 1 = .ok (.iconst 0, 1) := by decide +kernel
theorem dX6_all_2 : decode cX6_all 2 = .ok (.iconst 4, 1) := by decide +kernel
theorem dX6_all_3 : decode cX6_all 3 = .ok (.invokestatic 45, 3) := by decide +kernel
theorem dX6_all_6 : decode cX6_all 6 = .ok (.ifCond .ne 7, 3) := by decide +kernel
theorem dX6_all_9 : decode cX6_all 9 = .ok (.sipush (-10001), 3) := by decide +kernel
theorem dX6_all_12 : decode cX6_all 12 = .ok (.ireturn, 1) := by decide +kernel
theorem dX6_all_13 : decode cX6_all 13 = .ok (.aload_n 0, 1) := by decide +kernel
theorem dX6_all_14 : decode cX6_all 14 = .ok (.invokevirtual 208, 3) := by decide +kernel
theorem dX6_all_17 : decode cX6_all 17 = .ok (.iload_n 1, 1) := by decide +kernel
theorem dX6_all_18 : decode cX6_all 18 = .ok (.tableswitch 50 0 3 #[30, 35, 40, 45], 30) := by decide +kernel
theorem dX6_all_48 : decode cX6_all 48 = .ok (.aload_n 0, 1) := by decide +kernel
theorem dX6_all_49 : decode cX6_all 49 = .ok (.getfield 190, 3) := by decide +kernel
theorem dX6_all_52 : decode cX6_all 52 = .ok (.ireturn, 1) := by decide +kernel
theorem dX6_all_53 : decode cX6_all 53 = .ok (.aload_n 0, 1) := by decide +kernel
theorem dX6_all_54 : decode cX6_all 54 = .ok (.getfield 193, 3) := by decide +kernel
theorem dX6_all_57 : decode cX6_all 57 = .ok (.ireturn, 1) := by decide +kernel
theorem dX6_all_58 : decode cX6_all 58 = .ok (.aload_n 0, 1) := by decide +kernel
theorem dX6_all_59 : decode cX6_all 59 = .ok (.getfield 196, 3) := by decide +kernel
theorem dX6_all_62 : decode cX6_all 62 = .ok (.ireturn, 1) := by decide +kernel
theorem dX6_all_63 : decode cX6_all 63 = .ok (.aload_n 0, 1) := by decide +kernel
theorem dX6_all_64 : decode cX6_all 64 = .ok (.getfield 199, 3) := by decide +kernel
theorem dX6_all_67 : decode cX6_all 67 = .ok (.ireturn, 1) := by decide +kernel
theorem dX6_all_68 : decode cX6_all 68 = .ok (.aload_n 0, 1) := by decide +kernel
theorem dX6_all_69 : decode cX6_all 69 = .ok (.getfield 190, 3) := by decide +kernel
theorem dX6_all_72 : decode cX6_all 72 = .ok (.ifCond .ne 8, 3) := by decide +kernel
theorem dX6_all_75 : decode cX6_all 75 = .ok (.bipush (-5), 2) := by decide +kernel
theorem dX6_all_77 : decode cX6_all 77 = .ok (.goto 7, 3) := by decide +kernel
theorem dX6_all_80 : decode cX6_all 80 = .ok (.aload_n 0, 1) := by decide +kernel
theorem dX6_all_81 : decode cX6_all 81 = .ok (.getfield 202, 3) := by decide +kernel
theorem dX6_all_84 : decode cX6_all 84 = .ok (.ireturn, 1) := by decide +kernel
theorem dX6_once_0 : decode cX6_once 0 = .ok (.aload_n 0, 1) := by decide +kernel
theorem dX6_once_1 : decode cX6_once 1 = .ok (.iload_n 2, 1) := by decide +kernel
theorem dX6_once_2 : decode cX6_once 2 = .ok (.invokevirtual 152, 3) := by decide +kernel
theorem dX6_once_5 : decode cX6_once 5 = .ok (.ifCond .eq 20, 3) := by decide +kernel
theorem dX6_once_8 : decode cX6_once 8 = .ok (.iload_n 3, 1) := by decide +kernel
theorem dX6_once_9 : decode cX6_once 9 = .ok (.invokestatic 178, 3) := by decide +kernel
theorem dX6_once_12 : decode cX6_once 12 = .ok (.ifCond .eq 13, 3) := by decide +kernel
theorem dX6_once_15 : decode cX6_once 15 = .ok (.iload 4, 2) := by decide +kernel
theorem dX6_once_17 : decode cX6_once 17 = .ok (.iconst 0, 1) := by decide +kernel
theorem dX6_once_18 : decode cX6_once 18 = .ok (.iconst 1, 1) := by decide +kernel
theorem dX6_once_19 : decode cX6_once 19 = .ok (.invokestatic 45, 3) := by decide +kernel
theorem dX6_once_22 : decode cX6_once 22 = .ok (.ifCond .ne 5, 3) := by decide +kernel
theorem dX6_once_25 : decode cX6_once 25 = .ok (.iconst (-1), 1) := by decide +kernel
theorem dX6_once_26 : decode cX6_once 26 = .ok (.ireturn, 1) := by decide +kernel
theorem dX6_once_27 : decode cX6_once 27 = .ok (.aload_n 0, 1) := by decide +kernel
theorem dX6_once_28 : decode cX6_once 28 = .ok (.iload_n 1, 1) := by decide +kernel
theorem dX6_once_29 : decode cX6_once 29 = .ok (.invokevirtual 156, 3) := by decide +kernel
theorem dX6_once_32 : decode cX6_once 32 = .ok (.ifCond .ne 6, 3) := by decide +kernel
theorem dX6_once_35 : decode cX6_once 35 = .ok (.bipush (-2), 2) := by decide +kernel
theorem dX6_once_37 : decode cX6_once 37 = .ok (.ireturn, 1) := by decide +kernel
theorem dX6_once_38 : decode cX6_once 38 = .ok (.aload_n 0, 1) := by decide +kernel
theorem dX6_once_39 : decode cX6_once 39 = .ok (.invokevirtual 181, 3) := by decide +kernel
theorem dX6_once_42 : decode cX6_once 42 = .ok (.iload_n 1, 1) := by decide +kernel
theorem dX6_once_43 : decode cX6_once 43 = .ok (.iconst 1, 1) := by decide +kernel
theorem dX6_once_44 : decode cX6_once 44 = .ok (.iconst 3, 1) := by decide +kernel
theorem dX6_once_45 : decode cX6_once 45 = .ok (.iload_n 2, 1) := by decide +kernel
theorem dX6_once_46 : decode cX6_once 46 = .ok (.imul, 1) := by decide +kernel
theorem dX6_once_47 : decode cX6_once 47 = .ok (.iload_n 3, 1) := by decide +kernel
theorem dX6_once_48 : decode cX6_once 48 = .ok (.iadd, 1) := by decide +kernel
theorem dX6_once_49 : decode cX6_once 49 = .ok (.ishl, 1) := by decide +kernel
theorem dX6_once_50 : decode cX6_once 50 = .ok (.ixor, 1) := by decide +kernel
theorem dX6_once_51 : decode cX6_once 51 = .ok (.istore 5, 2) := by decide +kernel
theorem dX6_once_53 : decode cX6_once 53 = .ok (.iconst 0, 1) := by decide +kernel
theorem dX6_once_54 : decode cX6_once 54 = .ok (.istore 6, 2) := by decide +kernel
theorem dX6_once_56 : decode cX6_once 56 = .ok (.iload 6, 2) := by decide +kernel
theorem dX6_once_58 : decode cX6_once 58 = .ok (.bipush 60, 2) := by decide +kernel
theorem dX6_once_60 : decode cX6_once 60 = .ok (.if_icmp .gt 41, 3) := by decide +kernel
theorem dX6_once_63 : decode cX6_once 63 = .ok (.aload_n 0, 1) := by decide +kernel
theorem dX6_once_64 : decode cX6_once 64 = .ok (.iload 5, 2) := by decide +kernel
theorem dX6_once_66 : decode cX6_once 66 = .ok (.invokevirtual 184, 3) := by decide +kernel
theorem dX6_once_69 : decode cX6_once 69 = .ok (.istore 7, 2) := by decide +kernel
theorem dX6_once_71 : decode cX6_once 71 = .ok (.iload 7, 2) := by decide +kernel
theorem dX6_once_73 : decode cX6_once 73 = .ok (.iload 5, 2) := by decide +kernel
theorem dX6_once_75 : decode cX6_once 75 = .ok (.if_icmp .ne 16, 3) := by decide +kernel
theorem dX6_once_78 : decode cX6_once 78 = .ok (.iload 4, 2) := by decide +kernel
theorem dX6_once_80 : decode cX6_once 80 = .ok (.ifCond .ne 8, 3) := by decide +kernel
theorem dX6_once_83 : decode cX6_once 83 = .ok (.iload 6, 2) := by decide +kernel
theorem dX6_once_85 : decode cX6_once 85 = .ok (.goto 5, 3) := by decide +kernel
theorem dX6_once_88 : decode cX6_once 88 = .ok (.iload 5, 2) := by decide +kernel
theorem dX6_once_90 : decode cX6_once 90 = .ok (.ireturn, 1) := by decide +kernel
theorem dX6_once_91 : decode cX6_once 91 = .ok (.iload 7, 2) := by decide +kernel
theorem dX6_once_93 : decode cX6_once 93 = .ok (.istore 5, 2) := by decide +kernel
theorem dX6_once_95 : decode cX6_once 95 = .ok (.iinc 6 1, 3) := by decide +kernel
theorem dX6_once_98 : decode cX6_once 98 = .ok (.goto (-42), 3) := by decide +kernel
theorem dX6_once_101 : decode cX6_once 101 = .ok (.bipush (-5), 2) := by decide +kernel
theorem dX6_once_103 : decode cX6_once 103 = .ok (.ireturn, 1) := by decide +kernel
theorem dX6_again_0 : decode cX6_again 0 = .ok (.iload_n 2, 1) := by decide +kernel
theorem dX6_again_1 : decode cX6_again 1 = .ok (.iconst 0, 1) := by decide +kernel
theorem dX6_again_2 : decode cX6_again 2 = .ok (.iconst 1, 1) := by decide +kernel
theorem dX6_again_3 : decode cX6_again 3 = .ok (.invokestatic 45, 3) := by decide +kernel
theorem dX6_again_6 : decode cX6_again 6 = .ok (.ifCond .ne 5, 3) := by decide +kernel
theorem dX6_again_9 : decode cX6_again 9 = .ok (.iconst (-1), 1) := by decide +kernel
theorem dX6_again_10 : decode cX6_again 10 = .ok (.ireturn, 1) := by decide +kernel
theorem dX6_again_11 : decode cX6_again 11 = .ok (.aload_n 0, 1) := by decide +kernel
theorem dX6_again_12 : decode cX6_again 12 = .ok (.iload_n 1, 1) := by decide +kernel
theorem dX6_again_13 : decode cX6_again 13 = .ok (.invokevirtual 156, 3) := by decide +kernel
theorem dX6_again_16 : decode cX6_again 16 = .ok (.ifCond .ne 6, 3) := by decide +kernel
theorem dX6_again_19 : decode cX6_again 19 = .ok (.bipush (-2), 2) := by decide +kernel
theorem dX6_again_21 : decode cX6_again 21 = .ok (.ireturn, 1) := by decide +kernel
theorem dX6_again_22 : decode cX6_again 22 = .ok (.aload_n 0, 1) := by decide +kernel
theorem dX6_again_23 : decode cX6_again 23 = .ok (.invokevirtual 181, 3) := by decide +kernel
theorem dX6_again_26 : decode cX6_again 26 = .ok (.aload_n 0, 1) := by decide +kernel
theorem dX6_again_27 : decode cX6_again 27 = .ok (.getfield 29, 3) := by decide +kernel
theorem dX6_again_30 : decode cX6_again 30 = .ok (.iconst 0, 1) := by decide +kernel
theorem dX6_again_31 : decode cX6_again 31 = .ok (.iload_n 1, 1) := by decide +kernel
theorem dX6_again_32 : decode cX6_again 32 = .ok (.iastore, 1) := by decide +kernel
theorem dX6_again_33 : decode cX6_again 33 = .ok (.iconst 1, 1) := by decide +kernel
theorem dX6_again_34 : decode cX6_again 34 = .ok (.istore_n 3, 1) := by decide +kernel
theorem dX6_again_35 : decode cX6_again 35 = .ok (.iload_n 3, 1) := by decide +kernel
theorem dX6_again_36 : decode cX6_again 36 = .ok (.sipush 200, 3) := by decide +kernel
theorem dX6_again_39 : decode cX6_again 39 = .ok (.if_icmp .gt 71, 3) := by decide +kernel
theorem dX6_again_42 : decode cX6_again 42 = .ok (.aload_n 0, 1) := by decide +kernel
theorem dX6_again_43 : decode cX6_again 43 = .ok (.getfield 29, 3) := by decide +kernel
theorem dX6_again_46 : decode cX6_again 46 = .ok (.iload_n 3, 1) := by decide +kernel
theorem dX6_again_47 : decode cX6_again 47 = .ok (.aload_n 0, 1) := by decide +kernel
theorem dX6_again_48 : decode cX6_again 48 = .ok (.aload_n 0, 1) := by decide +kernel
theorem dX6_again_49 : decode cX6_again 49 = .ok (.getfield 29, 3) := by decide +kernel
theorem dX6_again_52 : decode cX6_again 52 = .ok (.iload_n 3, 1) := by decide +kernel
theorem dX6_again_53 : decode cX6_again 53 = .ok (.iconst 1, 1) := by decide +kernel
theorem dX6_again_54 : decode cX6_again 54 = .ok (.isub, 1) := by decide +kernel
theorem dX6_again_55 : decode cX6_again 55 = .ok (.iaload, 1) := by decide +kernel
theorem dX6_again_56 : decode cX6_again 56 = .ok (.invokevirtual 184, 3) := by decide +kernel
theorem dX6_again_59 : decode cX6_again 59 = .ok (.iastore, 1) := by decide +kernel
theorem dX6_again_60 : decode cX6_again 60 = .ok (.iconst 0, 1) := by decide +kernel
theorem dX6_again_61 : decode cX6_again 61 = .ok (.istore 4, 2) := by decide +kernel
theorem dX6_again_63 : decode cX6_again 63 = .ok (.iload 4, 2) := by decide +kernel
theorem dX6_again_65 : decode cX6_again 65 = .ok (.iload_n 3, 1) := by decide +kernel
theorem dX6_again_66 : decode cX6_again 66 = .ok (.if_icmp .ge 38, 3) := by decide +kernel
theorem dX6_again_69 : decode cX6_again 69 = .ok (.aload_n 0, 1) := by decide +kernel
theorem dX6_again_70 : decode cX6_again 70 = .ok (.getfield 29, 3) := by decide +kernel
theorem dX6_again_73 : decode cX6_again 73 = .ok (.iload 4, 2) := by decide +kernel
theorem dX6_again_75 : decode cX6_again 75 = .ok (.iaload, 1) := by decide +kernel
theorem dX6_again_76 : decode cX6_again 76 = .ok (.aload_n 0, 1) := by decide +kernel
theorem dX6_again_77 : decode cX6_again 77 = .ok (.getfield 29, 3) := by decide +kernel
theorem dX6_again_80 : decode cX6_again 80 = .ok (.iload_n 3, 1) := by decide +kernel
theorem dX6_again_81 : decode cX6_again 81 = .ok (.iaload, 1) := by decide +kernel
theorem dX6_again_82 : decode cX6_again 82 = .ok (.if_icmp .ne 16, 3) := by decide +kernel
theorem dX6_again_85 : decode cX6_again 85 = .ok (.iload_n 2, 1) := by decide +kernel
theorem dX6_again_86 : decode cX6_again 86 = .ok (.ifCond .ne 7, 3) := by decide +kernel
theorem dX6_again_89 : decode cX6_again 89 = .ok (.iload_n 3, 1) := by decide +kernel
theorem dX6_again_90 : decode cX6_again 90 = .ok (.goto 7, 3) := by decide +kernel
theorem dX6_again_93 : decode cX6_again 93 = .ok (.iload_n 3, 1) := by decide +kernel
theorem dX6_again_94 : decode cX6_again 94 = .ok (.iload 4, 2) := by decide +kernel
theorem dX6_again_96 : decode cX6_again 96 = .ok (.isub, 1) := by decide +kernel
theorem dX6_again_97 : decode cX6_again 97 = .ok (.ireturn, 1) := by decide +kernel
theorem dX6_again_98 : decode cX6_again 98 = .ok (.iinc 4 1, 3) := by decide +kernel
theorem dX6_again_101 : decode cX6_again 101 = .ok (.goto (-38), 3) := by decide +kernel
theorem dX6_again_104 : decode cX6_again 104 = .ok (.iinc 3 1, 3) := by decide +kernel
theorem dX6_again_107 : decode cX6_again 107 = .ok (.goto (-72), 3) := by decide +kernel
theorem dX6_again_110 : decode cX6_again 110 = .ok (.bipush (-5), 2) := by decide +kernel
theorem dX6_again_112 : decode cX6_again 112 = .ok (.ireturn, 1) := by decide +kernel
theorem dX6_morningComes_0 : decode cX6_morningComes 0 = .ok (.aload_n 0, 1) := by decide +kernel
theorem dX6_morningComes_1 : decode cX6_morningComes 1 = .ok (.invokevirtual 208, 3) := by decide +kernel
theorem dX6_morningComes_4 : decode cX6_morningComes 4 = .ok (.aload_n 0, 1) := by decide +kernel
theorem dX6_morningComes_5 : decode cX6_morningComes 5 = .ok (.getfield 190, 3) := by decide +kernel
theorem dX6_morningComes_8 : decode cX6_morningComes 8 = .ok (.ifCond .le 10, 3) := by decide +kernel
theorem dX6_morningComes_11 : decode cX6_morningComes 11 = .ok (.aload_n 0, 1) := by decide +kernel
theorem dX6_morningComes_12 : decode cX6_morningComes 12 = .ok (.getfield 199, 3) := by decide +kernel
theorem dX6_morningComes_15 : decode cX6_morningComes 15 = .ok (.goto 13, 3) := by decide +kernel
theorem dX6_morningComes_18 : decode cX6_morningComes 18 = .ok (.aload_n 0, 1) := by decide +kernel
theorem dX6_morningComes_19 : decode cX6_morningComes 19 = .ok (.aload_n 0, 1) := by decide +kernel
theorem dX6_morningComes_20 : decode cX6_morningComes 20 = .ok (.getfield 7, 3) := by decide +kernel
theorem dX6_morningComes_23 : decode cX6_morningComes 23 = .ok (.iconst 5, 1) := by decide +kernel
theorem dX6_morningComes_24 : decode cX6_morningComes 24 = .ok (.iaload, 1) := by decide +kernel
theorem dX6_morningComes_25 : decode cX6_morningComes 25 = .ok (.invokevirtual 184, 3) := by decide +kernel
theorem dX6_morningComes_28 : decode cX6_morningComes 28 = .ok (.istore_n 1, 1) := by decide +kernel
theorem dX6_morningComes_29 : decode cX6_morningComes 29 = .ok (.aload_n 0, 1) := by decide +kernel
theorem dX6_morningComes_30 : decode cX6_morningComes 30 = .ok (.aload_n 0, 1) := by decide +kernel
theorem dX6_morningComes_31 : decode cX6_morningComes 31 = .ok (.iload_n 1, 1) := by decide +kernel
theorem dX6_morningComes_32 : decode cX6_morningComes 32 = .ok (.invokevirtual 187, 3) := by decide +kernel
theorem dX6_morningComes_35 : decode cX6_morningComes 35 = .ok (.putfield 211, 3) := by decide +kernel
theorem dX6_morningComes_38 : decode cX6_morningComes 38 = .ok (.aload_n 0, 1) := by decide +kernel
theorem dX6_morningComes_39 : decode cX6_morningComes 39 = .ok (.getfield 7, 3) := by decide +kernel
theorem dX6_morningComes_42 : decode cX6_morningComes 42 = .ok (.iconst 5, 1) := by decide +kernel
theorem dX6_morningComes_43 : decode cX6_morningComes 43 = .ok (.iload_n 1, 1) := by decide +kernel
theorem dX6_morningComes_44 : decode cX6_morningComes 44 = .ok (.iastore, 1) := by decide +kernel
theorem dX6_morningComes_45 : decode cX6_morningComes 45 = .ok (.iconst 0, 1) := by decide +kernel
theorem dX6_morningComes_46 : decode cX6_morningComes 46 = .ok (.istore_n 2, 1) := by decide +kernel
theorem dX6_morningComes_47 : decode cX6_morningComes 47 = .ok (.iload_n 2, 1) := by decide +kernel
theorem dX6_morningComes_48 : decode cX6_morningComes 48 = .ok (.aload_n 0, 1) := by decide +kernel
theorem dX6_morningComes_49 : decode cX6_morningComes 49 = .ok (.getfield 7, 3) := by decide +kernel
theorem dX6_morningComes_52 : decode cX6_morningComes 52 = .ok (.iconst 0, 1) := by decide +kernel
theorem dX6_morningComes_53 : decode cX6_morningComes 53 = .ok (.iaload, 1) := by decide +kernel
theorem dX6_morningComes_54 : decode cX6_morningComes 54 = .ok (.if_icmp .ge 69, 3) := by decide +kernel
theorem dX6_morningComes_57 : decode cX6_morningComes 57 = .ok (.iconst 0, 1) := by decide +kernel
theorem dX6_morningComes_58 : decode cX6_morningComes 58 = .ok (.istore_n 3, 1) := by decide +kernel
theorem dX6_morningComes_59 : decode cX6_morningComes 59 = .ok (.iconst 0, 1) := by decide +kernel
theorem dX6_morningComes_60 : decode cX6_morningComes 60 = .ok (.istore 4, 2) := by decide +kernel
theorem dX6_morningComes_62 : decode cX6_morningComes 62 = .ok (.iload 4, 2) := by decide +kernel
theorem dX6_morningComes_64 : decode cX6_morningComes 64 = .ok (.iconst 3, 1) := by decide +kernel
theorem dX6_morningComes_65 : decode cX6_morningComes 65 = .ok (.if_icmp .ge 27, 3) := by decide +kernel
theorem dX6_morningComes_68 : decode cX6_morningComes 68 = .ok (.iload_n 3, 1) := by decide +kernel
theorem dX6_morningComes_69 : decode cX6_morningComes 69 = .ok (.iload_n 1, 1) := by decide +kernel
theorem dX6_morningComes_70 : decode cX6_morningComes 70 = .ok (.iload_n 2, 1) := by decide +kernel
theorem dX6_morningComes_71 : decode cX6_morningComes 71 = .ok (.iload 4, 2) := by decide +kernel
theorem dX6_morningComes_73 : decode cX6_morningComes 73 = .ok (.invokestatic 138, 3) := by decide +kernel
theorem dX6_morningComes_76 : decode cX6_morningComes 76 = .ok (.ifCond .eq 7, 3) := by decide +kernel
theorem dX6_morningComes_79 : decode cX6_morningComes 79 = .ok (.iconst 1, 1) := by decide +kernel
theorem dX6_morningComes_80 : decode cX6_morningComes 80 = .ok (.goto 4, 3) := by decide +kernel
theorem dX6_morningComes_83 : decode cX6_morningComes 83 = .ok (.iconst 0, 1) := by decide +kernel
theorem dX6_morningComes_84 : decode cX6_morningComes 84 = .ok (.iadd, 1) := by decide +kernel
theorem dX6_morningComes_85 : decode cX6_morningComes 85 = .ok (.istore_n 3, 1) := by decide +kernel
theorem dX6_morningComes_86 : decode cX6_morningComes 86 = .ok (.iinc 4 1, 3) := by decide +kernel
theorem dX6_morningComes_89 : decode cX6_morningComes 89 = .ok (.goto (-27), 3) := by decide +kernel
theorem dX6_morningComes_92 : decode cX6_morningComes 92 = .ok (.aload_n 0, 1) := by decide +kernel
theorem dX6_morningComes_93 : decode cX6_morningComes 93 = .ok (.getfield 7, 3) := by decide +kernel
theorem dX6_morningComes_96 : decode cX6_morningComes 96 = .ok (.bipush 122, 2) := by decide +kernel
theorem dX6_morningComes_98 : decode cX6_morningComes 98 = .ok (.iload_n 2, 1) := by decide +kernel
theorem dX6_morningComes_99 : decode cX6_morningComes 99 = .ok (.iadd, 1) := by decide +kernel
theorem dX6_morningComes_100 : decode cX6_morningComes 100 = .ok (.iload_n 3, 1) := by decide +kernel
theorem dX6_morningComes_101 : decode cX6_morningComes 101 = .ok (.aload_n 0, 1) := by decide +kernel
theorem dX6_morningComes_102 : decode cX6_morningComes 102 = .ok (.sipush 136, 3) := by decide +kernel
theorem dX6_morningComes_105 : decode cX6_morningComes 105 = .ok (.invokevirtual 125, 3) := by decide +kernel
theorem dX6_morningComes_108 : decode cX6_morningComes 108 = .ok (.if_icmp .lt 7, 3) := by decide +kernel
theorem dX6_morningComes_111 : decode cX6_morningComes 111 = .ok (.iconst 1, 1) := by decide +kernel
theorem dX6_morningComes_112 : decode cX6_morningComes 112 = .ok (.goto 4, 3) := by decide +kernel
theorem dX6_morningComes_115 : decode cX6_morningComes 115 = .ok (.iconst 0, 1) := by decide +kernel
theorem dX6_morningComes_116 : decode cX6_morningComes 116 = .ok (.iastore, 1) := by decide +kernel
theorem dX6_morningComes_117 : decode cX6_morningComes 117 = .ok (.iinc 2 1, 3) := by decide +kernel
theorem dX6_morningComes_120 : decode cX6_morningComes 120 = .ok (.goto (-73), 3) := by decide +kernel
theorem dX6_morningComes_123 : decode cX6_morningComes 123 = .ok (.iload_n 1, 1) := by decide +kernel
theorem dX6_morningComes_124 : decode cX6_morningComes 124 = .ok (.ireturn, 1) := by decide +kernel
theorem dX6_morning_0 : decode cX6_morning 0 = .ok (.aload_n 0, 1) := by decide +kernel
theorem dX6_morning_1 : decode cX6_morning 1 = .ok (.invokevirtual 214, 3) := by decide +kernel
theorem dX6_morning_4 : decode cX6_morning 4 = .ok (.ireturn, 1) := by decide +kernel
theorem dX6_year_0 : decode cX6_year 0 = .ok (.iload_n 2, 1) := by decide +kernel
theorem dX6_year_1 : decode cX6_year 1 = .ok (.iconst 0, 1) := by decide +kernel
theorem dX6_year_2 : decode cX6_year 2 = .ok (.iconst 1, 1) := by decide +kernel
theorem dX6_year_3 : decode cX6_year 3 = .ok (.invokestatic 45, 3) := by decide +kernel
theorem dX6_year_6 : decode cX6_year 6 = .ok (.ifCond .ne 7, 3) := by decide +kernel
theorem dX6_year_9 : decode cX6_year 9 = .ok (.sipush (-10001), 3) := by decide +kernel
theorem dX6_year_12 : decode cX6_year 12 = .ok (.ireturn, 1) := by decide +kernel
theorem dX6_year_13 : decode cX6_year 13 = .ok (.iload_n 1, 1) := by decide +kernel
theorem dX6_year_14 : decode cX6_year 14 = .ok (.iconst 1, 1) := by decide +kernel
theorem dX6_year_15 : decode cX6_year 15 = .ok (.bipush 30, 2) := by decide +kernel
theorem dX6_year_17 : decode cX6_year 17 = .ok (.invokestatic 45, 3) := by decide +kernel
theorem dX6_year_20 : decode cX6_year 20 = .ok (.ifCond .ne 7, 3) := by decide +kernel
theorem dX6_year_23 : decode cX6_year 23 = .ok (.sipush (-10002), 3) := by decide +kernel
theorem dX6_year_26 : decode cX6_year 26 = .ok (.ireturn, 1) := by decide +kernel
theorem dX6_year_27 : decode cX6_year 27 = .ok (.aload_n 0, 1) := by decide +kernel
theorem dX6_year_28 : decode cX6_year 28 = .ok (.getfield 7, 3) := by decide +kernel
theorem dX6_year_31 : decode cX6_year 31 = .ok (.iconst 5, 1) := by decide +kernel
theorem dX6_year_32 : decode cX6_year 32 = .ok (.iaload, 1) := by decide +kernel
theorem dX6_year_33 : decode cX6_year 33 = .ok (.istore_n 3, 1) := by decide +kernel
theorem dX6_year_34 : decode cX6_year 34 = .ok (.iconst 0, 1) := by decide +kernel
theorem dX6_year_35 : decode cX6_year 35 = .ok (.istore 4, 2) := by decide +kernel
theorem dX6_year_37 : decode cX6_year 37 = .ok (.iload 4, 2) := by decide +kernel
theorem dX6_year_39 : decode cX6_year 39 = .ok (.iconst 4, 1) := by decide +kernel
theorem dX6_year_40 : decode cX6_year 40 = .ok (.if_icmp .ge 26, 3) := by decide +kernel
theorem dX6_year_43 : decode cX6_year 43 = .ok (.aload_n 0, 1) := by decide +kernel
theorem dX6_year_44 : decode cX6_year 44 = .ok (.getfield 32, 3) := by decide +kernel
theorem dX6_year_47 : decode cX6_year 47 = .ok (.iload 4, 2) := by decide +kernel
theorem dX6_year_49 : decode cX6_year 49 = .ok (.aload_n 0, 1) := by decide +kernel
theorem dX6_year_50 : decode cX6_year 50 = .ok (.getfield 7, 3) := by decide +kernel
theorem dX6_year_53 : decode cX6_year 53 = .ok (.bipush 122, 2) := by decide +kernel
theorem dX6_year_55 : decode cX6_year 55 = .ok (.iload 4, 2) := by decide +kernel
theorem dX6_year_57 : decode cX6_year 57 = .ok (.iadd, 1) := by decide +kernel
theorem dX6_year_58 : decode cX6_year 58 = .ok (.iaload, 1) := by decide +kernel
theorem dX6_year_59 : decode cX6_year 59 = .ok (.iastore, 1) := by decide +kernel
theorem dX6_year_60 : decode cX6_year 60 = .ok (.iinc 4 1, 3) := by decide +kernel
theorem dX6_year_63 : decode cX6_year 63 = .ok (.goto (-26), 3) := by decide +kernel
theorem dX6_year_66 : decode cX6_year 66 = .ok (.iconst 0, 1) := by decide +kernel
theorem dX6_year_67 : decode cX6_year 67 = .ok (.istore 4, 2) := by decide +kernel
theorem dX6_year_69 : decode cX6_year 69 = .ok (.iconst 0, 1) := by decide +kernel
theorem dX6_year_70 : decode cX6_year 70 = .ok (.istore 5, 2) := by decide +kernel
theorem dX6_year_72 : decode cX6_year 72 = .ok (.iconst 0, 1) := by decide +kernel
theorem dX6_year_73 : decode cX6_year 73 = .ok (.istore 6, 2) := by decide +kernel
theorem dX6_year_75 : decode cX6_year 75 = .ok (.iload 6, 2) := by decide +kernel
theorem dX6_year_77 : decode cX6_year 77 = .ok (.iload_n 1, 1) := by decide +kernel
theorem dX6_year_78 : decode cX6_year 78 = .ok (.if_icmp .ge 41, 3) := by decide +kernel
theorem dX6_year_81 : decode cX6_year 81 = .ok (.aload_n 0, 1) := by decide +kernel
theorem dX6_year_82 : decode cX6_year 82 = .ok (.invokevirtual 214, 3) := by decide +kernel
theorem dX6_year_85 : decode cX6_year 85 = .ok (.istore 7, 2) := by decide +kernel
theorem dX6_year_87 : decode cX6_year 87 = .ok (.iload 4, 2) := by decide +kernel
theorem dX6_year_89 : decode cX6_year 89 = .ok (.aload_n 0, 1) := by decide +kernel
theorem dX6_year_90 : decode cX6_year 90 = .ok (.getfield 211, 3) := by decide +kernel
theorem dX6_year_93 : decode cX6_year 93 = .ok (.iadd, 1) := by decide +kernel
theorem dX6_year_94 : decode cX6_year 94 = .ok (.istore 4, 2) := by decide +kernel
theorem dX6_year_96 : decode cX6_year 96 = .ok (.iload 5, 2) := by decide +kernel
theorem dX6_year_98 : decode cX6_year 98 = .ok (.aload_n 0, 1) := by decide +kernel
theorem dX6_year_99 : decode cX6_year 99 = .ok (.getfield 190, 3) := by decide +kernel
theorem dX6_year_102 : decode cX6_year 102 = .ok (.ifCond .ne 7, 3) := by decide +kernel
theorem dX6_year_105 : decode cX6_year 105 = .ok (.iconst 1, 1) := by decide +kernel
theorem dX6_year_106 : decode cX6_year 106 = .ok (.goto 4, 3) := by decide +kernel
theorem dX6_year_109 : decode cX6_year 109 = .ok (.iconst 0, 1) := by decide +kernel
theorem dX6_year_110 : decode cX6_year 110 = .ok (.iadd, 1) := by decide +kernel
theorem dX6_year_111 : decode cX6_year 111 = .ok (.istore 5, 2) := by decide +kernel
theorem dX6_year_113 : decode cX6_year 113 = .ok (.iinc 6 1, 3) := by decide +kernel
theorem dX6_year_116 : decode cX6_year 116 = .ok (.goto (-41), 3) := by decide +kernel
theorem dX6_year_119 : decode cX6_year 119 = .ok (.aload_n 0, 1) := by decide +kernel
theorem dX6_year_120 : decode cX6_year 120 = .ok (.getfield 7, 3) := by decide +kernel
theorem dX6_year_123 : decode cX6_year 123 = .ok (.iconst 5, 1) := by decide +kernel
theorem dX6_year_124 : decode cX6_year 124 = .ok (.iload_n 3, 1) := by decide +kernel
theorem dX6_year_125 : decode cX6_year 125 = .ok (.iastore, 1) := by decide +kernel
theorem dX6_year_126 : decode cX6_year 126 = .ok (.iconst 0, 1) := by decide +kernel
theorem dX6_year_127 : decode cX6_year 127 = .ok (.istore 6, 2) := by decide +kernel
theorem dX6_year_129 : decode cX6_year 129 = .ok (.iload 6, 2) := by decide +kernel
theorem dX6_year_131 : decode cX6_year 131 = .ok (.iconst 4, 1) := by decide +kernel
theorem dX6_year_132 : decode cX6_year 132 = .ok (.if_icmp .ge 26, 3) := by decide +kernel
theorem dX6_year_135 : decode cX6_year 135 = .ok (.aload_n 0, 1) := by decide +kernel
theorem dX6_year_136 : decode cX6_year 136 = .ok (.getfield 7, 3) := by decide +kernel
theorem dX6_year_139 : decode cX6_year 139 = .ok (.bipush 122, 2) := by decide +kernel
theorem dX6_year_141 : decode cX6_year 141 = .ok (.iload 6, 2) := by decide +kernel
theorem dX6_year_143 : decode cX6_year 143 = .ok (.iadd, 1) := by decide +kernel
theorem dX6_year_144 : decode cX6_year 144 = .ok (.aload_n 0, 1) := by decide +kernel
theorem dX6_year_145 : decode cX6_year 145 = .ok (.getfield 32, 3) := by decide +kernel
theorem dX6_year_148 : decode cX6_year 148 = .ok (.iload 6, 2) := by decide +kernel
theorem dX6_year_150 : decode cX6_year 150 = .ok (.iaload, 1) := by decide +kernel
theorem dX6_year_151 : decode cX6_year 151 = .ok (.iastore, 1) := by decide +kernel
theorem dX6_year_152 : decode cX6_year 152 = .ok (.iinc 6 1, 3) := by decide +kernel
theorem dX6_year_155 : decode cX6_year 155 = .ok (.goto (-26), 3) := by decide +kernel
theorem dX6_year_158 : decode cX6_year 158 = .ok (.iload_n 2, 1) := by decide +kernel
theorem dX6_year_159 : decode cX6_year 159 = .ok (.ifCond .ne 8, 3) := by decide +kernel
theorem dX6_year_162 : decode cX6_year 162 = .ok (.iload 4, 2) := by decide +kernel
theorem dX6_year_164 : decode cX6_year 164 = .ok (.goto 5, 3) := by decide +kernel
theorem dX6_year_167 : decode cX6_year 167 = .ok (.iload 5, 2) := by decide +kernel
theorem dX6_year_169 : decode cX6_year 169 = .ok (.ireturn, 1) := by decide +kernel
theorem dX6_divisor_0 : decode cX6_divisor 0 = .ok (.iload_n 0, 1) := by decide +kernel
theorem dX6_divisor_1 : decode cX6_divisor 1 = .ok (.istore_n 2, 1) := by decide +kernel
theorem dX6_divisor_2 : decode cX6_divisor 2 = .ok (.iload_n 1, 1) := by decide +kernel
theorem dX6_divisor_3 : decode cX6_divisor 3 = .ok (.istore_n 3, 1) := by decide +kernel
theorem dX6_divisor_4 : decode cX6_divisor 4 = .ok (.iload_n 3, 1) := by decide +kernel
theorem dX6_divisor_5 : decode cX6_divisor 5 = .ok (.ifCond .eq 16, 3) := by decide +kernel
theorem dX6_divisor_8 : decode cX6_divisor 8 = .ok (.iload_n 2, 1) := by decide +kernel
theorem dX6_divisor_9 : decode cX6_divisor 9 = .ok (.iload_n 3, 1) := by decide +kernel
theorem dX6_divisor_10 : decode cX6_divisor 10 = .ok (.irem, 1) := by decide +kernel
theorem dX6_divisor_11 : decode cX6_divisor 11 = .ok (.istore 4, 2) := by decide +kernel
theorem dX6_divisor_13 : decode cX6_divisor 13 = .ok (.iload_n 3, 1) := by decide +kernel
theorem dX6_divisor_14 : decode cX6_divisor 14 = .ok (.istore_n 2, 1) := by decide +kernel
theorem dX6_divisor_15 : decode cX6_divisor 15 = .ok (.iload 4, 2) := by decide +kernel
theorem dX6_divisor_17 : decode cX6_divisor 17 = .ok (.istore_n 3, 1) := by decide +kernel
theorem dX6_divisor_18 : decode cX6_divisor 18 = .ok (.goto (-14), 3) := by decide +kernel
theorem dX6_divisor_21 : decode cX6_divisor 21 = .ok (.iload_n 2, 1) := by decide +kernel
theorem dX6_divisor_22 : decode cX6_divisor 22 = .ok (.ireturn, 1) := by decide +kernel
theorem dX6_bet_0 : decode cX6_bet 0 = .ok (.aload_n 0, 1) := by decide +kernel
theorem dX6_bet_1 : decode cX6_bet 1 = .ok (.iload_n 1, 1) := by decide +kernel
theorem dX6_bet_2 : decode cX6_bet 2 = .ok (.invokevirtual 152, 3) := by decide +kernel
theorem dX6_bet_5 : decode cX6_bet 5 = .ok (.ifCond .eq 19, 3) := by decide +kernel
theorem dX6_bet_8 : decode cX6_bet 8 = .ok (.iload_n 2, 1) := by decide +kernel
theorem dX6_bet_9 : decode cX6_bet 9 = .ok (.invokestatic 178, 3) := by decide +kernel
theorem dX6_bet_12 : decode cX6_bet 12 = .ok (.ifCond .eq 12, 3) := by decide +kernel
theorem dX6_bet_15 : decode cX6_bet 15 = .ok (.iload_n 3, 1) := by decide +kernel
theorem dX6_bet_16 : decode cX6_bet 16 = .ok (.iconst 0, 1) := by decide +kernel
theorem dX6_bet_17 : decode cX6_bet 17 = .ok (.iconst 1, 1) := by decide +kernel
theorem dX6_bet_18 : decode cX6_bet 18 = .ok (.invokestatic 45, 3) := by decide +kernel
theorem dX6_bet_21 : decode cX6_bet 21 = .ok (.ifCond .ne 5, 3) := by decide +kernel
theorem dX6_bet_24 : decode cX6_bet 24 = .ok (.iconst (-1), 1) := by decide +kernel
theorem dX6_bet_25 : decode cX6_bet 25 = .ok (.ireturn, 1) := by decide +kernel
theorem dX6_bet_26 : decode cX6_bet 26 = .ok (.aload_n 0, 1) := by decide +kernel
theorem dX6_bet_27 : decode cX6_bet 27 = .ok (.invokevirtual 181, 3) := by decide +kernel
theorem dX6_bet_30 : decode cX6_bet 30 = .ok (.iconst 0, 1) := by decide +kernel
theorem dX6_bet_31 : decode cX6_bet 31 = .ok (.istore 4, 2) := by decide +kernel
theorem dX6_bet_33 : decode cX6_bet 33 = .ok (.iconst 0, 1) := by decide +kernel
theorem dX6_bet_34 : decode cX6_bet 34 = .ok (.istore 5, 2) := by decide +kernel
theorem dX6_bet_36 : decode cX6_bet 36 = .ok (.iconst 0, 1) := by decide +kernel
theorem dX6_bet_37 : decode cX6_bet 37 = .ok (.istore 6, 2) := by decide +kernel
theorem dX6_bet_39 : decode cX6_bet 39 = .ok (.iload 6, 2) := by decide +kernel
theorem dX6_bet_41 : decode cX6_bet 41 = .ok (.aload_n 0, 1) := by decide +kernel
theorem dX6_bet_42 : decode cX6_bet 42 = .ok (.invokevirtual 49, 3) := by decide +kernel
theorem dX6_bet_45 : decode cX6_bet 45 = .ok (.if_icmp .ge 57, 3) := by decide +kernel
theorem dX6_bet_48 : decode cX6_bet 48 = .ok (.aload_n 0, 1) := by decide +kernel
theorem dX6_bet_49 : decode cX6_bet 49 = .ok (.iload 6, 2) := by decide +kernel
theorem dX6_bet_51 : decode cX6_bet 51 = .ok (.invokevirtual 205, 3) := by decide +kernel
theorem dX6_bet_54 : decode cX6_bet 54 = .ok (.istore 7, 2) := by decide +kernel
theorem dX6_bet_56 : decode cX6_bet 56 = .ok (.iload 5, 2) := by decide +kernel
theorem dX6_bet_58 : decode cX6_bet 58 = .ok (.iload 7, 2) := by decide +kernel
theorem dX6_bet_60 : decode cX6_bet 60 = .ok (.ifCond .eq 7, 3) := by decide +kernel
theorem dX6_bet_63 : decode cX6_bet 63 = .ok (.iconst 1, 1) := by decide +kernel
theorem dX6_bet_64 : decode cX6_bet 64 = .ok (.goto 4, 3) := by decide +kernel
theorem dX6_bet_67 : decode cX6_bet 67 = .ok (.iconst 0, 1) := by decide +kernel
theorem dX6_bet_68 : decode cX6_bet 68 = .ok (.iadd, 1) := by decide +kernel
theorem dX6_bet_69 : decode cX6_bet 69 = .ok (.istore 5, 2) := by decide +kernel
theorem dX6_bet_71 : decode cX6_bet 71 = .ok (.iload 4, 2) := by decide +kernel
theorem dX6_bet_73 : decode cX6_bet 73 = .ok (.iload 7, 2) := by decide +kernel
theorem dX6_bet_75 : decode cX6_bet 75 = .ok (.ifCond .eq 17, 3) := by decide +kernel
theorem dX6_bet_78 : decode cX6_bet 78 = .ok (.iload 6, 2) := by decide +kernel
theorem dX6_bet_80 : decode cX6_bet 80 = .ok (.iload_n 1, 1) := by decide +kernel
theorem dX6_bet_81 : decode cX6_bet 81 = .ok (.iload_n 2, 1) := by decide +kernel
theorem dX6_bet_82 : decode cX6_bet 82 = .ok (.invokestatic 138, 3) := by decide +kernel
theorem dX6_bet_85 : decode cX6_bet 85 = .ok (.ifCond .eq 7, 3) := by decide +kernel
theorem dX6_bet_88 : decode cX6_bet 88 = .ok (.iconst 1, 1) := by decide +kernel
theorem dX6_bet_89 : decode cX6_bet 89 = .ok (.goto 4, 3) := by decide +kernel
theorem dX6_bet_92 : decode cX6_bet 92 = .ok (.iconst 0, 1) := by decide +kernel
theorem dX6_bet_93 : decode cX6_bet 93 = .ok (.iadd, 1) := by decide +kernel
theorem dX6_bet_94 : decode cX6_bet 94 = .ok (.istore 4, 2) := by decide +kernel
theorem dX6_bet_96 : decode cX6_bet 96 = .ok (.iinc 6 1, 3) := by decide +kernel
theorem dX6_bet_99 : decode cX6_bet 99 = .ok (.goto (-60), 3) := by decide +kernel
theorem dX6_bet_102 : decode cX6_bet 102 = .ok (.iload 4, 2) := by decide +kernel
theorem dX6_bet_104 : decode cX6_bet 104 = .ok (.ifCond .ne 5, 3) := by decide +kernel
theorem dX6_bet_107 : decode cX6_bet 107 = .ok (.iload_n 3, 1) := by decide +kernel
theorem dX6_bet_108 : decode cX6_bet 108 = .ok (.ireturn, 1) := by decide +kernel
theorem dX6_bet_109 : decode cX6_bet 109 = .ok (.iload_n 3, 1) := by decide +kernel
theorem dX6_bet_110 : decode cX6_bet 110 = .ok (.ifCond .ne 8, 3) := by decide +kernel
theorem dX6_bet_113 : decode cX6_bet 113 = .ok (.iload 4, 2) := by decide +kernel
theorem dX6_bet_115 : decode cX6_bet 115 = .ok (.goto 5, 3) := by decide +kernel
theorem dX6_bet_118 : decode cX6_bet 118 = .ok (.iload 5, 2) := by decide +kernel
theorem dX6_bet_120 : decode cX6_bet 120 = .ok (.iload 4, 2) := by decide +kernel
theorem dX6_bet_122 : decode cX6_bet 122 = .ok (.iload 5, 2) := by decide +kernel
theorem dX6_bet_124 : decode cX6_bet 124 = .ok (.invokestatic 217, 3) := by decide +kernel
theorem dX6_bet_127 : decode cX6_bet 127 = .ok (.idiv, 1) := by decide +kernel
theorem dX6_bet_128 : decode cX6_bet 128 = .ok (.ireturn, 1) := by decide +kernel
theorem dX6_keeps_0 : decode cX6_keeps 0 = .ok (.iconst 0, 1) := by decide +kernel
theorem dX6_keeps_1 : decode cX6_keeps 1 = .ok (.istore_n 1, 1) := by decide +kernel
theorem dX6_keeps_2 : decode cX6_keeps 2 = .ok (.iload_n 1, 1) := by decide +kernel
theorem dX6_keeps_3 : decode cX6_keeps 3 = .ok (.iconst 4, 1) := by decide +kernel
theorem dX6_keeps_4 : decode cX6_keeps 4 = .ok (.if_icmp .ge 59, 3) := by decide +kernel
theorem dX6_keeps_7 : decode cX6_keeps 7 = .ok (.aload_n 0, 1) := by decide +kernel
theorem dX6_keeps_8 : decode cX6_keeps 8 = .ok (.getfield 35, 3) := by decide +kernel
theorem dX6_keeps_11 : decode cX6_keeps 11 = .ok (.iload_n 1, 1) := by decide +kernel
theorem dX6_keeps_12 : decode cX6_keeps 12 = .ok (.aload_n 0, 1) := by decide +kernel
theorem dX6_keeps_13 : decode cX6_keeps 13 = .ok (.getfield 7, 3) := by decide +kernel
theorem dX6_keeps_16 : decode cX6_keeps 16 = .ok (.bipush 110, 2) := by decide +kernel
theorem dX6_keeps_18 : decode cX6_keeps 18 = .ok (.iload_n 1, 1) := by decide +kernel
theorem dX6_keeps_19 : decode cX6_keeps 19 = .ok (.iadd, 1) := by decide +kernel
theorem dX6_keeps_20 : decode cX6_keeps 20 = .ok (.iaload, 1) := by decide +kernel
theorem dX6_keeps_21 : decode cX6_keeps 21 = .ok (.iastore, 1) := by decide +kernel
theorem dX6_keeps_22 : decode cX6_keeps 22 = .ok (.aload_n 0, 1) := by decide +kernel
theorem dX6_keeps_23 : decode cX6_keeps 23 = .ok (.getfield 35, 3) := by decide +kernel
theorem dX6_keeps_26 : decode cX6_keeps 26 = .ok (.iconst 4, 1) := by decide +kernel
theorem dX6_keeps_27 : decode cX6_keeps 27 = .ok (.iload_n 1, 1) := by decide +kernel
theorem dX6_keeps_28 : decode cX6_keeps 28 = .ok (.iadd, 1) := by decide +kernel
theorem dX6_keeps_29 : decode cX6_keeps 29 = .ok (.aload_n 0, 1) := by decide +kernel
theorem dX6_keeps_30 : decode cX6_keeps 30 = .ok (.getfield 7, 3) := by decide +kernel
theorem dX6_keeps_33 : decode cX6_keeps 33 = .ok (.bipush 114, 2) := by decide +kernel
theorem dX6_keeps_35 : decode cX6_keeps 35 = .ok (.iload_n 1, 1) := by decide +kernel
theorem dX6_keeps_36 : decode cX6_keeps 36 = .ok (.iadd, 1) := by decide +kernel
theorem dX6_keeps_37 : decode cX6_keeps 37 = .ok (.iaload, 1) := by decide +kernel
theorem dX6_keeps_38 : decode cX6_keeps 38 = .ok (.iastore, 1) := by decide +kernel
theorem dX6_keeps_39 : decode cX6_keeps 39 = .ok (.aload_n 0, 1) := by decide +kernel
theorem dX6_keeps_40 : decode cX6_keeps 40 = .ok (.getfield 35, 3) := by decide +kernel
theorem dX6_keeps_43 : decode cX6_keeps 43 = .ok (.bipush 8, 2) := by decide +kernel
theorem dX6_keeps_45 : decode cX6_keeps 45 = .ok (.iload_n 1, 1) := by decide +kernel
theorem dX6_keeps_46 : decode cX6_keeps 46 = .ok (.iadd, 1) := by decide +kernel
theorem dX6_keeps_47 : decode cX6_keeps 47 = .ok (.aload_n 0, 1) := by decide +kernel
theorem dX6_keeps_48 : decode cX6_keeps 48 = .ok (.getfield 7, 3) := by decide +kernel
theorem dX6_keeps_51 : decode cX6_keeps 51 = .ok (.bipush 118, 2) := by decide +kernel
theorem dX6_keeps_53 : decode cX6_keeps 53 = .ok (.iload_n 1, 1) := by decide +kernel
theorem dX6_keeps_54 : decode cX6_keeps 54 = .ok (.iadd, 1) := by decide +kernel
theorem dX6_keeps_55 : decode cX6_keeps 55 = .ok (.iaload, 1) := by decide +kernel
theorem dX6_keeps_56 : decode cX6_keeps 56 = .ok (.iastore, 1) := by decide +kernel
theorem dX6_keeps_57 : decode cX6_keeps 57 = .ok (.iinc 1 1, 3) := by decide +kernel
theorem dX6_keeps_60 : decode cX6_keeps 60 = .ok (.goto (-58), 3) := by decide +kernel
theorem dX6_keeps_63 : decode cX6_keeps 63 = .ok (.return_, 1) := by decide +kernel
theorem dX6_goesBack_0 : decode cX6_goesBack 0 = .ok (.iconst 0, 1) := by decide +kernel
theorem dX6_goesBack_1 : decode cX6_goesBack 1 = .ok (.istore_n 1, 1) := by decide +kernel
theorem dX6_goesBack_2 : decode cX6_goesBack 2 = .ok (.iload_n 1, 1) := by decide +kernel
theorem dX6_goesBack_3 : decode cX6_goesBack 3 = .ok (.iconst 4, 1) := by decide +kernel
theorem dX6_goesBack_4 : decode cX6_goesBack 4 = .ok (.if_icmp .ge 59, 3) := by decide +kernel
theorem dX6_goesBack_7 : decode cX6_goesBack 7 = .ok (.aload_n 0, 1) := by decide +kernel
theorem dX6_goesBack_8 : decode cX6_goesBack 8 = .ok (.getfield 7, 3) := by decide +kernel
theorem dX6_goesBack_11 : decode cX6_goesBack 11 = .ok (.bipush 110, 2) := by decide +kernel
theorem dX6_goesBack_13 : decode cX6_goesBack 13 = .ok (.iload_n 1, 1) := by decide +kernel
theorem dX6_goesBack_14 : decode cX6_goesBack 14 = .ok (.iadd, 1) := by decide +kernel
theorem dX6_goesBack_15 : decode cX6_goesBack 15 = .ok (.aload_n 0, 1) := by decide +kernel
theorem dX6_goesBack_16 : decode cX6_goesBack 16 = .ok (.getfield 35, 3) := by decide +kernel
theorem dX6_goesBack_19 : decode cX6_goesBack 19 = .ok (.iload_n 1, 1) := by decide +kernel
theorem dX6_goesBack_20 : decode cX6_goesBack 20 = .ok (.iaload, 1) := by decide +kernel
theorem dX6_goesBack_21 : decode cX6_goesBack 21 = .ok (.iastore, 1) := by decide +kernel
theorem dX6_goesBack_22 : decode cX6_goesBack 22 = .ok (.aload_n 0, 1) := by decide +kernel
theorem dX6_goesBack_23 : decode cX6_goesBack 23 = .ok (.getfield 7, 3) := by decide +kernel
theorem dX6_goesBack_26 : decode cX6_goesBack 26 = .ok (.bipush 114, 2) := by decide +kernel
theorem dX6_goesBack_28 : decode cX6_goesBack 28 = .ok (.iload_n 1, 1) := by decide +kernel
theorem dX6_goesBack_29 : decode cX6_goesBack 29 = .ok (.iadd, 1) := by decide +kernel
theorem dX6_goesBack_30 : decode cX6_goesBack 30 = .ok (.aload_n 0, 1) := by decide +kernel
theorem dX6_goesBack_31 : decode cX6_goesBack 31 = .ok (.getfield 35, 3) := by decide +kernel
theorem dX6_goesBack_34 : decode cX6_goesBack 34 = .ok (.iconst 4, 1) := by decide +kernel
theorem dX6_goesBack_35 : decode cX6_goesBack 35 = .ok (.iload_n 1, 1) := by decide +kernel
theorem dX6_goesBack_36 : decode cX6_goesBack 36 = .ok (.iadd, 1) := by decide +kernel
theorem dX6_goesBack_37 : decode cX6_goesBack 37 = .ok (.iaload, 1) := by decide +kernel
theorem dX6_goesBack_38 : decode cX6_goesBack 38 = .ok (.iastore, 1) := by decide +kernel
theorem dX6_goesBack_39 : decode cX6_goesBack 39 = .ok (.aload_n 0, 1) := by decide +kernel
theorem dX6_goesBack_40 : decode cX6_goesBack 40 = .ok (.getfield 7, 3) := by decide +kernel
theorem dX6_goesBack_43 : decode cX6_goesBack 43 = .ok (.bipush 118, 2) := by decide +kernel
theorem dX6_goesBack_45 : decode cX6_goesBack 45 = .ok (.iload_n 1, 1) := by decide +kernel
theorem dX6_goesBack_46 : decode cX6_goesBack 46 = .ok (.iadd, 1) := by decide +kernel
theorem dX6_goesBack_47 : decode cX6_goesBack 47 = .ok (.aload_n 0, 1) := by decide +kernel
theorem dX6_goesBack_48 : decode cX6_goesBack 48 = .ok (.getfield 35, 3) := by decide +kernel
theorem dX6_goesBack_51 : decode cX6_goesBack 51 = .ok (.bipush 8, 2) := by decide +kernel
theorem dX6_goesBack_53 : decode cX6_goesBack 53 = .ok (.iload_n 1, 1) := by decide +kernel
theorem dX6_goesBack_54 : decode cX6_goesBack 54 = .ok (.iadd, 1) := by decide +kernel
theorem dX6_goesBack_55 : decode cX6_goesBack 55 = .ok (.iaload, 1) := by decide +kernel
theorem dX6_goesBack_56 : decode cX6_goesBack 56 = .ok (.iastore, 1) := by decide +kernel
theorem dX6_goesBack_57 : decode cX6_goesBack 57 = .ok (.iinc 1 1, 3) := by decide +kernel
theorem dX6_goesBack_60 : decode cX6_goesBack 60 = .ok (.goto (-58), 3) := by decide +kernel
theorem dX6_goesBack_63 : decode cX6_goesBack 63 = .ok (.return_, 1) := by decide +kernel
theorem dX6_count1_0 : decode cX6_count1 0 = .ok (.iconst 0, 1) := by decide +kernel
theorem dX6_count1_1 : decode cX6_count1 1 = .ok (.istore_n 1, 1) := by decide +kernel
theorem dX6_count1_2 : decode cX6_count1 2 = .ok (.iconst 0, 1) := by decide +kernel
theorem dX6_count1_3 : decode cX6_count1 3 = .ok (.istore_n 2, 1) := by decide +kernel
theorem dX6_count1_4 : decode cX6_count1 4 = .ok (.iload_n 2, 1) := by decide +kernel
theorem dX6_count1_5 : decode cX6_count1 5 = .ok (.iconst 4, 1) := by decide +kernel
theorem dX6_count1_6 : decode cX6_count1 6 = .ok (.if_icmp .ge 17, 3) := by decide +kernel
theorem dX6_count1_9 : decode cX6_count1 9 = .ok (.iload_n 1, 1) := by decide +kernel
theorem dX6_count1_10 : decode cX6_count1 10 = .ok (.iload_n 0, 1) := by decide +kernel
theorem dX6_count1_11 : decode cX6_count1 11 = .ok (.iload_n 2, 1) := by decide +kernel
theorem dX6_count1_12 : decode cX6_count1 12 = .ok (.ishr, 1) := by decide +kernel
theorem dX6_count1_13 : decode cX6_count1 13 = .ok (.iconst 1, 1) := by decide +kernel
theorem dX6_count1_14 : decode cX6_count1 14 = .ok (.iand, 1) := by decide +kernel
theorem dX6_count1_15 : decode cX6_count1 15 = .ok (.iadd, 1) := by decide +kernel
theorem dX6_count1_16 : decode cX6_count1 16 = .ok (.istore_n 1, 1) := by decide +kernel
theorem dX6_count1_17 : decode cX6_count1 17 = .ok (.iinc 2 1, 3) := by decide +kernel
theorem dX6_count1_20 : decode cX6_count1 20 = .ok (.goto (-16), 3) := by decide +kernel
theorem dX6_count1_23 : decode cX6_count1 23 = .ok (.iload_n 1, 1) := by decide +kernel
theorem dX6_count1_24 : decode cX6_count1 24 = .ok (.ireturn, 1) := by decide +kernel
theorem dX6_sure_0 : decode cX6_sure 0 = .ok (.aload_n 0, 1) := by decide +kernel
theorem dX6_sure_1 : decode cX6_sure 1 = .ok (.invokevirtual 208, 3) := by decide +kernel
theorem dX6_sure_4 : decode cX6_sure 4 = .ok (.aload_n 0, 1) := by decide +kernel
theorem dX6_sure_5 : decode cX6_sure 5 = .ok (.getfield 190, 3) := by decide +kernel
theorem dX6_sure_8 : decode cX6_sure 8 = .ok (.ifCond .ne 6, 3) := by decide +kernel
theorem dX6_sure_11 : decode cX6_sure 11 = .ok (.bipush (-5), 2) := by decide +kernel
theorem dX6_sure_13 : decode cX6_sure 13 = .ok (.ireturn, 1) := by decide +kernel
theorem dX6_sure_14 : decode cX6_sure 14 = .ok (.aload_n 0, 1) := by decide +kernel
theorem dX6_sure_15 : decode cX6_sure 15 = .ok (.getfield 199, 3) := by decide +kernel
theorem dX6_sure_18 : decode cX6_sure 18 = .ok (.istore_n 1, 1) := by decide +kernel
theorem dX6_sure_19 : decode cX6_sure 19 = .ok (.bipush (-5), 2) := by decide +kernel
theorem dX6_sure_21 : decode cX6_sure 21 = .ok (.istore_n 2, 1) := by decide +kernel
theorem dX6_sure_22 : decode cX6_sure 22 = .ok (.aload_n 0, 1) := by decide +kernel
theorem dX6_sure_23 : decode cX6_sure 23 = .ok (.invokevirtual 220, 3) := by decide +kernel
theorem dX6_sure_26 : decode cX6_sure 26 = .ok (.iconst 0, 1) := by decide +kernel
theorem dX6_sure_27 : decode cX6_sure 27 = .ok (.istore_n 3, 1) := by decide +kernel
theorem dX6_sure_28 : decode cX6_sure 28 = .ok (.iload_n 3, 1) := by decide +kernel
theorem dX6_sure_29 : decode cX6_sure 29 = .ok (.iconst 1, 1) := by decide +kernel
theorem dX6_sure_30 : decode cX6_sure 30 = .ok (.aload_n 0, 1) := by decide +kernel
theorem dX6_sure_31 : decode cX6_sure 31 = .ok (.getfield 7, 3) := by decide +kernel
theorem dX6_sure_34 : decode cX6_sure 34 = .ok (.iconst 0, 1) := by decide +kernel
theorem dX6_sure_35 : decode cX6_sure 35 = .ok (.iaload, 1) := by decide +kernel
theorem dX6_sure_36 : decode cX6_sure 36 = .ok (.ishl, 1) := by decide +kernel
theorem dX6_sure_37 : decode cX6_sure 37 = .ok (.if_icmp .ge 145, 3) := by decide +kernel
theorem dX6_sure_40 : decode cX6_sure 40 = .ok (.iload_n 2, 1) := by decide +kernel
theorem dX6_sure_41 : decode cX6_sure 41 = .ok (.bipush (-5), 2) := by decide +kernel
theorem dX6_sure_43 : decode cX6_sure 43 = .ok (.if_icmp .eq 14, 3) := by decide +kernel
theorem dX6_sure_46 : decode cX6_sure 46 = .ok (.iload_n 3, 1) := by decide +kernel
theorem dX6_sure_47 : decode cX6_sure 47 = .ok (.invokestatic 223, 3) := by decide +kernel
theorem dX6_sure_50 : decode cX6_sure 50 = .ok (.iload_n 2, 1) := by decide +kernel
theorem dX6_sure_51 : decode cX6_sure 51 = .ok (.invokestatic 223, 3) := by decide +kernel
theorem dX6_sure_54 : decode cX6_sure 54 = .ok (.if_icmp .ge 122, 3) := by decide +kernel
theorem dX6_sure_57 : decode cX6_sure 57 = .ok (.iconst 0, 1) := by decide +kernel
theorem dX6_sure_58 : decode cX6_sure 58 = .ok (.istore 4, 2) := by decide +kernel
theorem dX6_sure_60 : decode cX6_sure 60 = .ok (.iload 4, 2) := by decide +kernel
theorem dX6_sure_62 : decode cX6_sure 62 = .ok (.aload_n 0, 1) := by decide +kernel
theorem dX6_sure_63 : decode cX6_sure 63 = .ok (.getfield 7, 3) := by decide +kernel
theorem dX6_sure_66 : decode cX6_sure 66 = .ok (.iconst 0, 1) := by decide +kernel
theorem dX6_sure_67 : decode cX6_sure 67 = .ok (.iaload, 1) := by decide +kernel
theorem dX6_sure_68 : decode cX6_sure 68 = .ok (.if_icmp .ge 90, 3) := by decide +kernel
theorem dX6_sure_71 : decode cX6_sure 71 = .ok (.iload_n 3, 1) := by decide +kernel
theorem dX6_sure_72 : decode cX6_sure 72 = .ok (.iload 4, 2) := by decide +kernel
theorem dX6_sure_74 : decode cX6_sure 74 = .ok (.ishr, 1) := by decide +kernel
theorem dX6_sure_75 : decode cX6_sure 75 = .ok (.iconst 1, 1) := by decide +kernel
theorem dX6_sure_76 : decode cX6_sure 76 = .ok (.iand, 1) := by decide +kernel
theorem dX6_sure_77 : decode cX6_sure 77 = .ok (.iconst 1, 1) := by decide +kernel
theorem dX6_sure_78 : decode cX6_sure 78 = .ok (.if_icmp .ne 7, 3) := by decide +kernel
theorem dX6_sure_81 : decode cX6_sure 81 = .ok (.iconst 1, 1) := by decide +kernel
theorem dX6_sure_82 : decode cX6_sure 82 = .ok (.goto 4, 3) := by decide +kernel
theorem dX6_sure_85 : decode cX6_sure 85 = .ok (.iconst 0, 1) := by decide +kernel
theorem dX6_sure_86 : decode cX6_sure 86 = .ok (.istore 5, 2) := by decide +kernel
theorem dX6_sure_88 : decode cX6_sure 88 = .ok (.aload_n 0, 1) := by decide +kernel
theorem dX6_sure_89 : decode cX6_sure 89 = .ok (.getfield 7, 3) := by decide +kernel
theorem dX6_sure_92 : decode cX6_sure 92 = .ok (.bipush 110, 2) := by decide +kernel
theorem dX6_sure_94 : decode cX6_sure 94 = .ok (.iload 4, 2) := by decide +kernel
theorem dX6_sure_96 : decode cX6_sure 96 = .ok (.iadd, 1) := by decide +kernel
theorem dX6_sure_97 : decode cX6_sure 97 = .ok (.iload 5, 2) := by decide +kernel
theorem dX6_sure_99 : decode cX6_sure 99 = .ok (.ifCond .eq 8, 3) := by decide +kernel
theorem dX6_sure_102 : decode cX6_sure 102 = .ok (.bipush 6, 2) := by decide +kernel
theorem dX6_sure_104 : decode cX6_sure 104 = .ok (.goto 10, 3) := by decide +kernel
theorem dX6_sure_107 : decode cX6_sure 107 = .ok (.aload_n 0, 1) := by decide +kernel
theorem dX6_sure_108 : decode cX6_sure 108 = .ok (.getfield 35, 3) := by decide +kernel
theorem dX6_sure_111 : decode cX6_sure 111 = .ok (.iload 4, 2) := by decide +kernel
theorem dX6_sure_113 : decode cX6_sure 113 = .ok (.iaload, 1) := by decide +kernel
theorem dX6_sure_114 : decode cX6_sure 114 = .ok (.iastore, 1) := by decide +kernel
theorem dX6_sure_115 : decode cX6_sure 115 = .ok (.aload_n 0, 1) := by decide +kernel
theorem dX6_sure_116 : decode cX6_sure 116 = .ok (.getfield 7, 3) := by decide +kernel
theorem dX6_sure_119 : decode cX6_sure 119 = .ok (.bipush 118, 2) := by decide +kernel
theorem dX6_sure_121 : decode cX6_sure 121 = .ok (.iload 4, 2) := by decide +kernel
theorem dX6_sure_123 : decode cX6_sure 123 = .ok (.iadd, 1) := by decide +kernel
theorem dX6_sure_124 : decode cX6_sure 124 = .ok (.iload 5, 2) := by decide +kernel
theorem dX6_sure_126 : decode cX6_sure 126 = .ok (.ifCond .eq 15, 3) := by decide +kernel
theorem dX6_sure_129 : decode cX6_sure 129 = .ok (.iload_n 1, 1) := by decide +kernel
theorem dX6_sure_130 : decode cX6_sure 130 = .ok (.iconst 3, 1) := by decide +kernel
theorem dX6_sure_131 : decode cX6_sure 131 = .ok (.iload 4, 2) := by decide +kernel
theorem dX6_sure_133 : decode cX6_sure 133 = .ok (.imul, 1) := by decide +kernel
theorem dX6_sure_134 : decode cX6_sure 134 = .ok (.ishr, 1) := by decide +kernel
theorem dX6_sure_135 : decode cX6_sure 135 = .ok (.bipush 7, 2) := by decide +kernel
theorem dX6_sure_137 : decode cX6_sure 137 = .ok (.iand, 1) := by decide +kernel
theorem dX6_sure_138 : decode cX6_sure 138 = .ok (.goto 13, 3) := by decide +kernel
theorem dX6_sure_141 : decode cX6_sure 141 = .ok (.aload_n 0, 1) := by decide +kernel
theorem dX6_sure_142 : decode cX6_sure 142 = .ok (.getfield 35, 3) := by decide +kernel
theorem dX6_sure_145 : decode cX6_sure 145 = .ok (.bipush 8, 2) := by decide +kernel
theorem dX6_sure_147 : decode cX6_sure 147 = .ok (.iload 4, 2) := by decide +kernel
theorem dX6_sure_149 : decode cX6_sure 149 = .ok (.iadd, 1) := by decide +kernel
theorem dX6_sure_150 : decode cX6_sure 150 = .ok (.iaload, 1) := by decide +kernel
theorem dX6_sure_151 : decode cX6_sure 151 = .ok (.iastore, 1) := by decide +kernel
theorem dX6_sure_152 : decode cX6_sure 152 = .ok (.iinc 4 1, 3) := by decide +kernel
theorem dX6_sure_155 : decode cX6_sure 155 = .ok (.goto (-95), 3) := by decide +kernel
theorem dX6_sure_158 : decode cX6_sure 158 = .ok (.aload_n 0, 1) := by decide +kernel
theorem dX6_sure_159 : decode cX6_sure 159 = .ok (.invokevirtual 208, 3) := by decide +kernel
theorem dX6_sure_162 : decode cX6_sure 162 = .ok (.aload_n 0, 1) := by decide +kernel
theorem dX6_sure_163 : decode cX6_sure 163 = .ok (.getfield 190, 3) := by decide +kernel
theorem dX6_sure_166 : decode cX6_sure 166 = .ok (.iconst 1, 1) := by decide +kernel
theorem dX6_sure_167 : decode cX6_sure 167 = .ok (.if_icmp .ne 7, 3) := by decide +kernel
theorem dX6_sure_170 : decode cX6_sure 170 = .ok (.iload_n 3, 1) := by decide +kernel
theorem dX6_sure_171 : decode cX6_sure 171 = .ok (.goto 4, 3) := by decide +kernel
theorem dX6_sure_174 : decode cX6_sure 174 = .ok (.iload_n 2, 1) := by decide +kernel
theorem dX6_sure_175 : decode cX6_sure 175 = .ok (.istore_n 2, 1) := by decide +kernel
theorem dX6_sure_176 : decode cX6_sure 176 = .ok (.iinc 3 1, 3) := by decide +kernel
theorem dX6_sure_179 : decode cX6_sure 179 = .ok (.goto (-151), 3) := by decide +kernel
theorem dX6_sure_182 : decode cX6_sure 182 = .ok (.aload_n 0, 1) := by decide +kernel
theorem dX6_sure_183 : decode cX6_sure 183 = .ok (.invokevirtual 226, 3) := by decide +kernel
theorem dX6_sure_186 : decode cX6_sure 186 = .ok (.iload_n 2, 1) := by decide +kernel
theorem dX6_sure_187 : decode cX6_sure 187 = .ok (.ireturn, 1) := by decide +kernel
theorem dX6_secret_0 : decode cX6_secret 0 = .ok (.aload_n 0, 1) := by decide +kernel
theorem dX6_secret_1 : decode cX6_secret 1 = .ok (.iload_n 1, 1) := by decide +kernel
theorem dX6_secret_2 : decode cX6_secret 2 = .ok (.invokevirtual 152, 3) := by decide +kernel
theorem dX6_secret_5 : decode cX6_secret 5 = .ok (.ifCond .eq 12, 3) := by decide +kernel
theorem dX6_secret_8 : decode cX6_secret 8 = .ok (.iload_n 2, 1) := by decide +kernel
theorem dX6_secret_9 : decode cX6_secret 9 = .ok (.iconst 0, 1) := by decide +kernel
theorem dX6_secret_10 : decode cX6_secret 10 = .ok (.iconst 1, 1) := by decide +kernel
theorem dX6_secret_11 : decode cX6_secret 11 = .ok (.invokestatic 45, 3) := by decide +kernel
theorem dX6_secret_14 : decode cX6_secret 14 = .ok (.ifCond .ne 5, 3) := by decide +kernel
theorem dX6_secret_17 : decode cX6_secret 17 = .ok (.iconst (-1), 1) := by decide +kernel
theorem dX6_secret_18 : decode cX6_secret 18 = .ok (.ireturn, 1) := by decide +kernel
theorem dX6_secret_19 : decode cX6_secret 19 = .ok (.aload_n 0, 1) := by decide +kernel
theorem dX6_secret_20 : decode cX6_secret 20 = .ok (.invokevirtual 208, 3) := by decide +kernel
theorem dX6_secret_23 : decode cX6_secret 23 = .ok (.aload_n 0, 1) := by decide +kernel
theorem dX6_secret_24 : decode cX6_secret 24 = .ok (.getfield 199, 3) := by decide +kernel
theorem dX6_secret_27 : decode cX6_secret 27 = .ok (.istore_n 3, 1) := by decide +kernel
theorem dX6_secret_28 : decode cX6_secret 28 = .ok (.aload_n 0, 1) := by decide +kernel
theorem dX6_secret_29 : decode cX6_secret 29 = .ok (.invokevirtual 220, 3) := by decide +kernel
theorem dX6_secret_32 : decode cX6_secret 32 = .ok (.aload_n 0, 1) := by decide +kernel
theorem dX6_secret_33 : decode cX6_secret 33 = .ok (.getfield 7, 3) := by decide +kernel
theorem dX6_secret_36 : decode cX6_secret 36 = .ok (.bipush 110, 2) := by decide +kernel
theorem dX6_secret_38 : decode cX6_secret 38 = .ok (.iload_n 1, 1) := by decide +kernel
theorem dX6_secret_39 : decode cX6_secret 39 = .ok (.iadd, 1) := by decide +kernel
theorem dX6_secret_40 : decode cX6_secret 40 = .ok (.iconst 3, 1) := by decide +kernel
theorem dX6_secret_41 : decode cX6_secret 41 = .ok (.iastore, 1) := by decide +kernel
theorem dX6_secret_42 : decode cX6_secret 42 = .ok (.aload_n 0, 1) := by decide +kernel
theorem dX6_secret_43 : decode cX6_secret 43 = .ok (.invokevirtual 208, 3) := by decide +kernel
theorem dX6_secret_46 : decode cX6_secret 46 = .ok (.aload_n 0, 1) := by decide +kernel
theorem dX6_secret_47 : decode cX6_secret 47 = .ok (.invokevirtual 226, 3) := by decide +kernel
theorem dX6_secret_50 : decode cX6_secret 50 = .ok (.iload_n 2, 1) := by decide +kernel
theorem dX6_secret_51 : decode cX6_secret 51 = .ok (.ifCond .eq 18, 3) := by decide +kernel
theorem dX6_secret_54 : decode cX6_secret 54 = .ok (.iload_n 3, 1) := by decide +kernel
theorem dX6_secret_55 : decode cX6_secret 55 = .ok (.bipush (-5), 2) := by decide +kernel
theorem dX6_secret_57 : decode cX6_secret 57 = .ok (.if_icmp .eq 12, 3) := by decide +kernel
theorem dX6_secret_60 : decode cX6_secret 60 = .ok (.aload_n 0, 1) := by decide +kernel
theorem dX6_secret_61 : decode cX6_secret 61 = .ok (.getfield 199, 3) := by decide +kernel
theorem dX6_secret_64 : decode cX6_secret 64 = .ok (.bipush (-5), 2) := by decide +kernel
theorem dX6_secret_66 : decode cX6_secret 66 = .ok (.if_icmp .ne 17, 3) := by decide +kernel
theorem dX6_secret_69 : decode cX6_secret 69 = .ok (.iload_n 2, 1) := by decide +kernel
theorem dX6_secret_70 : decode cX6_secret 70 = .ok (.ifCond .ne 10, 3) := by decide +kernel
theorem dX6_secret_73 : decode cX6_secret 73 = .ok (.aload_n 0, 1) := by decide +kernel
theorem dX6_secret_74 : decode cX6_secret 74 = .ok (.getfield 199, 3) := by decide +kernel
theorem dX6_secret_77 : decode cX6_secret 77 = .ok (.goto 5, 3) := by decide +kernel
theorem dX6_secret_80 : decode cX6_secret 80 = .ok (.bipush (-5), 2) := by decide +kernel
theorem dX6_secret_82 : decode cX6_secret 82 = .ok (.ireturn, 1) := by decide +kernel
theorem dX6_secret_83 : decode cX6_secret 83 = .ok (.iconst 0, 1) := by decide +kernel
theorem dX6_secret_84 : decode cX6_secret 84 = .ok (.istore 4, 2) := by decide +kernel
theorem dX6_secret_86 : decode cX6_secret 86 = .ok (.iconst 0, 1) := by decide +kernel
theorem dX6_secret_87 : decode cX6_secret 87 = .ok (.istore 5, 2) := by decide +kernel
theorem dX6_secret_89 : decode cX6_secret 89 = .ok (.iload 5, 2) := by decide +kernel
theorem dX6_secret_91 : decode cX6_secret 91 = .ok (.iconst 3, 1) := by decide +kernel
theorem dX6_secret_92 : decode cX6_secret 92 = .ok (.if_icmp .ge 39, 3) := by decide +kernel
theorem dX6_secret_95 : decode cX6_secret 95 = .ok (.iload 4, 2) := by decide +kernel
theorem dX6_secret_97 : decode cX6_secret 97 = .ok (.iload_n 3, 1) := by decide +kernel
theorem dX6_secret_98 : decode cX6_secret 98 = .ok (.iload_n 1, 1) := by decide +kernel
theorem dX6_secret_99 : decode cX6_secret 99 = .ok (.iload 5, 2) := by decide +kernel
theorem dX6_secret_101 : decode cX6_secret 101 = .ok (.invokestatic 138, 3) := by decide +kernel
theorem dX6_secret_104 : decode cX6_secret 104 = .ok (.aload_n 0, 1) := by decide +kernel
theorem dX6_secret_105 : decode cX6_secret 105 = .ok (.getfield 199, 3) := by decide +kernel
theorem dX6_secret_108 : decode cX6_secret 108 = .ok (.iload_n 1, 1) := by decide +kernel
theorem dX6_secret_109 : decode cX6_secret 109 = .ok (.iload 5, 2) := by decide +kernel
theorem dX6_secret_111 : decode cX6_secret 111 = .ok (.invokestatic 138, 3) := by decide +kernel
theorem dX6_secret_114 : decode cX6_secret 114 = .ok (.if_icmp .ne 7, 3) := by decide +kernel
theorem dX6_secret_117 : decode cX6_secret 117 = .ok (.iconst 0, 1) := by decide +kernel
theorem dX6_secret_118 : decode cX6_secret 118 = .ok (.goto 4, 3) := by decide +kernel
theorem dX6_secret_121 : decode cX6_secret 121 = .ok (.iconst 1, 1) := by decide +kernel
theorem dX6_secret_122 : decode cX6_secret 122 = .ok (.iadd, 1) := by decide +kernel
theorem dX6_secret_123 : decode cX6_secret 123 = .ok (.istore 4, 2) := by decide +kernel
theorem dX6_secret_125 : decode cX6_secret 125 = .ok (.iinc 5 1, 3) := by decide +kernel
theorem dX6_secret_128 : decode cX6_secret 128 = .ok (.goto (-39), 3) := by decide +kernel
theorem dX6_secret_131 : decode cX6_secret 131 = .ok (.iload 4, 2) := by decide +kernel
theorem dX6_secret_133 : decode cX6_secret 133 = .ok (.ireturn, 1) := by decide +kernel
theorem dX6_isGood_0 : decode cX6_isGood 0 = .ok (.aload_n 0, 1) := by decide +kernel
theorem dX6_isGood_1 : decode cX6_isGood 1 = .ok (.invokevirtual 181, 3) := by decide +kernel
theorem dX6_isGood_4 : decode cX6_isGood 4 = .ok (.aload_n 0, 1) := by decide +kernel
theorem dX6_isGood_5 : decode cX6_isGood 5 = .ok (.iload_n 3, 1) := by decide +kernel
theorem dX6_isGood_6 : decode cX6_isGood 6 = .ok (.iload_n 1, 1) := by decide +kernel
theorem dX6_isGood_7 : decode cX6_isGood 7 = .ok (.invokevirtual 148, 3) := by decide +kernel
theorem dX6_isGood_10 : decode cX6_isGood 10 = .ok (.istore 4, 2) := by decide +kernel
theorem dX6_isGood_12 : decode cX6_isGood 12 = .ok (.aload_n 0, 1) := by decide +kernel
theorem dX6_isGood_13 : decode cX6_isGood 13 = .ok (.iload_n 3, 1) := by decide +kernel
theorem dX6_isGood_14 : decode cX6_isGood 14 = .ok (.iload_n 2, 1) := by decide +kernel
theorem dX6_isGood_15 : decode cX6_isGood 15 = .ok (.invokevirtual 148, 3) := by decide +kernel
theorem dX6_isGood_18 : decode cX6_isGood 18 = .ok (.istore 5, 2) := by decide +kernel
theorem dX6_isGood_20 : decode cX6_isGood 20 = .ok (.aload_n 0, 1) := by decide +kernel
theorem dX6_isGood_21 : decode cX6_isGood 21 = .ok (.invokevirtual 220, 3) := by decide +kernel
theorem dX6_isGood_24 : decode cX6_isGood 24 = .ok (.aload_n 0, 1) := by decide +kernel
theorem dX6_isGood_25 : decode cX6_isGood 25 = .ok (.getfield 7, 3) := by decide +kernel
theorem dX6_isGood_28 : decode cX6_isGood 28 = .ok (.bipush 110, 2) := by decide +kernel
theorem dX6_isGood_30 : decode cX6_isGood 30 = .ok (.iload_n 1, 1) := by decide +kernel
theorem dX6_isGood_31 : decode cX6_isGood 31 = .ok (.iadd, 1) := by decide +kernel
theorem dX6_isGood_32 : decode cX6_isGood 32 = .ok (.aload_n 0, 1) := by decide +kernel
theorem dX6_isGood_33 : decode cX6_isGood 33 = .ok (.getfield 35, 3) := by decide +kernel
theorem dX6_isGood_36 : decode cX6_isGood 36 = .ok (.iload_n 2, 1) := by decide +kernel
theorem dX6_isGood_37 : decode cX6_isGood 37 = .ok (.iaload, 1) := by decide +kernel
theorem dX6_isGood_38 : decode cX6_isGood 38 = .ok (.iastore, 1) := by decide +kernel
theorem dX6_isGood_39 : decode cX6_isGood 39 = .ok (.aload_n 0, 1) := by decide +kernel
theorem dX6_isGood_40 : decode cX6_isGood 40 = .ok (.getfield 7, 3) := by decide +kernel
theorem dX6_isGood_43 : decode cX6_isGood 43 = .ok (.bipush 114, 2) := by decide +kernel
theorem dX6_isGood_45 : decode cX6_isGood 45 = .ok (.iload_n 1, 1) := by decide +kernel
theorem dX6_isGood_46 : decode cX6_isGood 46 = .ok (.iadd, 1) := by decide +kernel
theorem dX6_isGood_47 : decode cX6_isGood 47 = .ok (.aload_n 0, 1) := by decide +kernel
theorem dX6_isGood_48 : decode cX6_isGood 48 = .ok (.getfield 35, 3) := by decide +kernel
theorem dX6_isGood_51 : decode cX6_isGood 51 = .ok (.iconst 4, 1) := by decide +kernel
theorem dX6_isGood_52 : decode cX6_isGood 52 = .ok (.iload_n 2, 1) := by decide +kernel
theorem dX6_isGood_53 : decode cX6_isGood 53 = .ok (.iadd, 1) := by decide +kernel
theorem dX6_isGood_54 : decode cX6_isGood 54 = .ok (.iaload, 1) := by decide +kernel
theorem dX6_isGood_55 : decode cX6_isGood 55 = .ok (.iastore, 1) := by decide +kernel
theorem dX6_isGood_56 : decode cX6_isGood 56 = .ok (.aload_n 0, 1) := by decide +kernel
theorem dX6_isGood_57 : decode cX6_isGood 57 = .ok (.getfield 7, 3) := by decide +kernel
theorem dX6_isGood_60 : decode cX6_isGood 60 = .ok (.bipush 118, 2) := by decide +kernel
theorem dX6_isGood_62 : decode cX6_isGood 62 = .ok (.iload_n 1, 1) := by decide +kernel
theorem dX6_isGood_63 : decode cX6_isGood 63 = .ok (.iadd, 1) := by decide +kernel
theorem dX6_isGood_64 : decode cX6_isGood 64 = .ok (.aload_n 0, 1) := by decide +kernel
theorem dX6_isGood_65 : decode cX6_isGood 65 = .ok (.getfield 35, 3) := by decide +kernel
theorem dX6_isGood_68 : decode cX6_isGood 68 = .ok (.iload_n 1, 1) := by decide +kernel
theorem dX6_isGood_69 : decode cX6_isGood 69 = .ok (.iaload, 1) := by decide +kernel
theorem dX6_isGood_70 : decode cX6_isGood 70 = .ok (.bipush 6, 2) := by decide +kernel
theorem dX6_isGood_72 : decode cX6_isGood 72 = .ok (.if_icmp .ne 15, 3) := by decide +kernel
theorem dX6_isGood_75 : decode cX6_isGood 75 = .ok (.aload_n 0, 1) := by decide +kernel
theorem dX6_isGood_76 : decode cX6_isGood 76 = .ok (.getfield 35, 3) := by decide +kernel
theorem dX6_isGood_79 : decode cX6_isGood 79 = .ok (.bipush 8, 2) := by decide +kernel
theorem dX6_isGood_81 : decode cX6_isGood 81 = .ok (.iload_n 1, 1) := by decide +kernel
theorem dX6_isGood_82 : decode cX6_isGood 82 = .ok (.iadd, 1) := by decide +kernel
theorem dX6_isGood_83 : decode cX6_isGood 83 = .ok (.iaload, 1) := by decide +kernel
theorem dX6_isGood_84 : decode cX6_isGood 84 = .ok (.goto 4, 3) := by decide +kernel
theorem dX6_isGood_87 : decode cX6_isGood 87 = .ok (.iconst 0, 1) := by decide +kernel
theorem dX6_isGood_88 : decode cX6_isGood 88 = .ok (.iastore, 1) := by decide +kernel
theorem dX6_isGood_89 : decode cX6_isGood 89 = .ok (.aload_n 0, 1) := by decide +kernel
theorem dX6_isGood_90 : decode cX6_isGood 90 = .ok (.getfield 7, 3) := by decide +kernel
theorem dX6_isGood_93 : decode cX6_isGood 93 = .ok (.bipush 110, 2) := by decide +kernel
theorem dX6_isGood_95 : decode cX6_isGood 95 = .ok (.iload_n 2, 1) := by decide +kernel
theorem dX6_isGood_96 : decode cX6_isGood 96 = .ok (.iadd, 1) := by decide +kernel
theorem dX6_isGood_97 : decode cX6_isGood 97 = .ok (.aload_n 0, 1) := by decide +kernel
theorem dX6_isGood_98 : decode cX6_isGood 98 = .ok (.getfield 35, 3) := by decide +kernel
theorem dX6_isGood_101 : decode cX6_isGood 101 = .ok (.iload_n 1, 1) := by decide +kernel
theorem dX6_isGood_102 : decode cX6_isGood 102 = .ok (.iaload, 1) := by decide +kernel
theorem dX6_isGood_103 : decode cX6_isGood 103 = .ok (.iastore, 1) := by decide +kernel
theorem dX6_isGood_104 : decode cX6_isGood 104 = .ok (.aload_n 0, 1) := by decide +kernel
theorem dX6_isGood_105 : decode cX6_isGood 105 = .ok (.getfield 7, 3) := by decide +kernel
theorem dX6_isGood_108 : decode cX6_isGood 108 = .ok (.bipush 114, 2) := by decide +kernel
theorem dX6_isGood_110 : decode cX6_isGood 110 = .ok (.iload_n 2, 1) := by decide +kernel
theorem dX6_isGood_111 : decode cX6_isGood 111 = .ok (.iadd, 1) := by decide +kernel
theorem dX6_isGood_112 : decode cX6_isGood 112 = .ok (.aload_n 0, 1) := by decide +kernel
theorem dX6_isGood_113 : decode cX6_isGood 113 = .ok (.getfield 35, 3) := by decide +kernel
theorem dX6_isGood_116 : decode cX6_isGood 116 = .ok (.iconst 4, 1) := by decide +kernel
theorem dX6_isGood_117 : decode cX6_isGood 117 = .ok (.iload_n 1, 1) := by decide +kernel
theorem dX6_isGood_118 : decode cX6_isGood 118 = .ok (.iadd, 1) := by decide +kernel
theorem dX6_isGood_119 : decode cX6_isGood 119 = .ok (.iaload, 1) := by decide +kernel
theorem dX6_isGood_120 : decode cX6_isGood 120 = .ok (.iastore, 1) := by decide +kernel
theorem dX6_isGood_121 : decode cX6_isGood 121 = .ok (.aload_n 0, 1) := by decide +kernel
theorem dX6_isGood_122 : decode cX6_isGood 122 = .ok (.getfield 7, 3) := by decide +kernel
theorem dX6_isGood_125 : decode cX6_isGood 125 = .ok (.bipush 118, 2) := by decide +kernel
theorem dX6_isGood_127 : decode cX6_isGood 127 = .ok (.iload_n 2, 1) := by decide +kernel
theorem dX6_isGood_128 : decode cX6_isGood 128 = .ok (.iadd, 1) := by decide +kernel
theorem dX6_isGood_129 : decode cX6_isGood 129 = .ok (.aload_n 0, 1) := by decide +kernel
theorem dX6_isGood_130 : decode cX6_isGood 130 = .ok (.getfield 35, 3) := by decide +kernel
theorem dX6_isGood_133 : decode cX6_isGood 133 = .ok (.iload_n 2, 1) := by decide +kernel
theorem dX6_isGood_134 : decode cX6_isGood 134 = .ok (.iaload, 1) := by decide +kernel
theorem dX6_isGood_135 : decode cX6_isGood 135 = .ok (.bipush 6, 2) := by decide +kernel
theorem dX6_isGood_137 : decode cX6_isGood 137 = .ok (.if_icmp .ne 15, 3) := by decide +kernel
theorem dX6_isGood_140 : decode cX6_isGood 140 = .ok (.aload_n 0, 1) := by decide +kernel
theorem dX6_isGood_141 : decode cX6_isGood 141 = .ok (.getfield 35, 3) := by decide +kernel
theorem dX6_isGood_144 : decode cX6_isGood 144 = .ok (.bipush 8, 2) := by decide +kernel
theorem dX6_isGood_146 : decode cX6_isGood 146 = .ok (.iload_n 2, 1) := by decide +kernel
theorem dX6_isGood_147 : decode cX6_isGood 147 = .ok (.iadd, 1) := by decide +kernel
theorem dX6_isGood_148 : decode cX6_isGood 148 = .ok (.iaload, 1) := by decide +kernel
theorem dX6_isGood_149 : decode cX6_isGood 149 = .ok (.goto 4, 3) := by decide +kernel
theorem dX6_isGood_152 : decode cX6_isGood 152 = .ok (.iconst 0, 1) := by decide +kernel
theorem dX6_isGood_153 : decode cX6_isGood 153 = .ok (.iastore, 1) := by decide +kernel
theorem dX6_isGood_154 : decode cX6_isGood 154 = .ok (.aload_n 0, 1) := by decide +kernel
theorem dX6_isGood_155 : decode cX6_isGood 155 = .ok (.invokevirtual 208, 3) := by decide +kernel
theorem dX6_isGood_158 : decode cX6_isGood 158 = .ok (.aload_n 0, 1) := by decide +kernel
theorem dX6_isGood_159 : decode cX6_isGood 159 = .ok (.getfield 190, 3) := by decide +kernel
theorem dX6_isGood_162 : decode cX6_isGood 162 = .ok (.ifCond .le 35, 3) := by decide +kernel
theorem dX6_isGood_165 : decode cX6_isGood 165 = .ok (.aload_n 0, 1) := by decide +kernel
theorem dX6_isGood_166 : decode cX6_isGood 166 = .ok (.aload_n 0, 1) := by decide +kernel
theorem dX6_isGood_167 : decode cX6_isGood 167 = .ok (.getfield 199, 3) := by decide +kernel
theorem dX6_isGood_170 : decode cX6_isGood 170 = .ok (.iload_n 1, 1) := by decide +kernel
theorem dX6_isGood_171 : decode cX6_isGood 171 = .ok (.invokevirtual 148, 3) := by decide +kernel
theorem dX6_isGood_174 : decode cX6_isGood 174 = .ok (.iload 4, 2) := by decide +kernel
theorem dX6_isGood_176 : decode cX6_isGood 176 = .ok (.if_icmp .le 21, 3) := by decide +kernel
theorem dX6_isGood_179 : decode cX6_isGood 179 = .ok (.aload_n 0, 1) := by decide +kernel
theorem dX6_isGood_180 : decode cX6_isGood 180 = .ok (.aload_n 0, 1) := by decide +kernel
theorem dX6_isGood_181 : decode cX6_isGood 181 = .ok (.getfield 199, 3) := by decide +kernel
theorem dX6_isGood_184 : decode cX6_isGood 184 = .ok (.iload_n 2, 1) := by decide +kernel
theorem dX6_isGood_185 : decode cX6_isGood 185 = .ok (.invokevirtual 148, 3) := by decide +kernel
theorem dX6_isGood_188 : decode cX6_isGood 188 = .ok (.iload 5, 2) := by decide +kernel
theorem dX6_isGood_190 : decode cX6_isGood 190 = .ok (.if_icmp .le 7, 3) := by decide +kernel
theorem dX6_isGood_193 : decode cX6_isGood 193 = .ok (.iconst 1, 1) := by decide +kernel
theorem dX6_isGood_194 : decode cX6_isGood 194 = .ok (.goto 4, 3) := by decide +kernel
theorem dX6_isGood_197 : decode cX6_isGood 197 = .ok (.iconst 0, 1) := by decide +kernel
theorem dX6_isGood_198 : decode cX6_isGood 198 = .ok (.istore 6, 2) := by decide +kernel
theorem dX6_isGood_200 : decode cX6_isGood 200 = .ok (.aload_n 0, 1) := by decide +kernel
theorem dX6_isGood_201 : decode cX6_isGood 201 = .ok (.invokevirtual 226, 3) := by decide +kernel
theorem dX6_isGood_204 : decode cX6_isGood 204 = .ok (.iload 6, 2) := by decide +kernel
theorem dX6_isGood_206 : decode cX6_isGood 206 = .ok (.ireturn, 1) := by decide +kernel
theorem dX6_swap_0 : decode cX6_swap 0 = .ok (.iload_n 1, 1) := by decide +kernel
theorem dX6_swap_1 : decode cX6_swap 1 = .ok (.iconst 0, 1) := by decide +kernel
theorem dX6_swap_2 : decode cX6_swap 2 = .ok (.iconst 1, 1) := by decide +kernel
theorem dX6_swap_3 : decode cX6_swap 3 = .ok (.invokestatic 45, 3) := by decide +kernel
theorem dX6_swap_6 : decode cX6_swap 6 = .ok (.ifCond .ne 5, 3) := by decide +kernel
theorem dX6_swap_9 : decode cX6_swap 9 = .ok (.iconst (-1), 1) := by decide +kernel
theorem dX6_swap_10 : decode cX6_swap 10 = .ok (.ireturn, 1) := by decide +kernel
theorem dX6_swap_11 : decode cX6_swap 11 = .ok (.aload_n 0, 1) := by decide +kernel
theorem dX6_swap_12 : decode cX6_swap 12 = .ok (.invokevirtual 208, 3) := by decide +kernel
theorem dX6_swap_15 : decode cX6_swap 15 = .ok (.aload_n 0, 1) := by decide +kernel
theorem dX6_swap_16 : decode cX6_swap 16 = .ok (.getfield 199, 3) := by decide +kernel
theorem dX6_swap_19 : decode cX6_swap 19 = .ok (.istore_n 2, 1) := by decide +kernel
theorem dX6_swap_20 : decode cX6_swap 20 = .ok (.iconst 0, 1) := by decide +kernel
theorem dX6_swap_21 : decode cX6_swap 21 = .ok (.istore_n 3, 1) := by decide +kernel
theorem dX6_swap_22 : decode cX6_swap 22 = .ok (.bipush (-5), 2) := by decide +kernel
theorem dX6_swap_24 : decode cX6_swap 24 = .ok (.istore 4, 2) := by decide +kernel
theorem dX6_swap_26 : decode cX6_swap 26 = .ok (.iconst 0, 1) := by decide +kernel
theorem dX6_swap_27 : decode cX6_swap 27 = .ok (.istore 5, 2) := by decide +kernel
theorem dX6_swap_29 : decode cX6_swap 29 = .ok (.iload 5, 2) := by decide +kernel
theorem dX6_swap_31 : decode cX6_swap 31 = .ok (.aload_n 0, 1) := by decide +kernel
theorem dX6_swap_32 : decode cX6_swap 32 = .ok (.getfield 7, 3) := by decide +kernel
theorem dX6_swap_35 : decode cX6_swap 35 = .ok (.iconst 0, 1) := by decide +kernel
theorem dX6_swap_36 : decode cX6_swap 36 = .ok (.iaload, 1) := by decide +kernel
theorem dX6_swap_37 : decode cX6_swap 37 = .ok (.if_icmp .ge 89, 3) := by decide +kernel
theorem dX6_swap_40 : decode cX6_swap 40 = .ok (.iload_n 2, 1) := by decide +kernel
theorem dX6_swap_41 : decode cX6_swap 41 = .ok (.bipush (-5), 2) := by decide +kernel
theorem dX6_swap_43 : decode cX6_swap 43 = .ok (.if_icmp .eq 83, 3) := by decide +kernel
theorem dX6_swap_46 : decode cX6_swap 46 = .ok (.iload 5, 2) := by decide +kernel
theorem dX6_swap_48 : decode cX6_swap 48 = .ok (.iconst 1, 1) := by decide +kernel
theorem dX6_swap_49 : decode cX6_swap 49 = .ok (.iadd, 1) := by decide +kernel
theorem dX6_swap_50 : decode cX6_swap 50 = .ok (.istore 6, 2) := by decide +kernel
theorem dX6_swap_52 : decode cX6_swap 52 = .ok (.iload 6, 2) := by decide +kernel
theorem dX6_swap_54 : decode cX6_swap 54 = .ok (.aload_n 0, 1) := by decide +kernel
theorem dX6_swap_55 : decode cX6_swap 55 = .ok (.getfield 7, 3) := by decide +kernel
theorem dX6_swap_58 : decode cX6_swap 58 = .ok (.iconst 0, 1) := by decide +kernel
theorem dX6_swap_59 : decode cX6_swap 59 = .ok (.iaload, 1) := by decide +kernel
theorem dX6_swap_60 : decode cX6_swap 60 = .ok (.if_icmp .ge 60, 3) := by decide +kernel
theorem dX6_swap_63 : decode cX6_swap 63 = .ok (.aload_n 0, 1) := by decide +kernel
theorem dX6_swap_64 : decode cX6_swap 64 = .ok (.iload 5, 2) := by decide +kernel
theorem dX6_swap_66 : decode cX6_swap 66 = .ok (.iload 6, 2) := by decide +kernel
theorem dX6_swap_68 : decode cX6_swap 68 = .ok (.iload_n 2, 1) := by decide +kernel
theorem dX6_swap_69 : decode cX6_swap 69 = .ok (.invokevirtual 229, 3) := by decide +kernel
theorem dX6_swap_72 : decode cX6_swap 72 = .ok (.istore 7, 2) := by decide +kernel
theorem dX6_swap_74 : decode cX6_swap 74 = .ok (.iload_n 3, 1) := by decide +kernel
theorem dX6_swap_75 : decode cX6_swap 75 = .ok (.iload 7, 2) := by decide +kernel
theorem dX6_swap_77 : decode cX6_swap 77 = .ok (.ifCond .eq 7, 3) := by decide +kernel
theorem dX6_swap_80 : decode cX6_swap 80 = .ok (.iconst 1, 1) := by decide +kernel
theorem dX6_swap_81 : decode cX6_swap 81 = .ok (.goto 4, 3) := by decide +kernel
theorem dX6_swap_84 : decode cX6_swap 84 = .ok (.iconst 0, 1) := by decide +kernel
theorem dX6_swap_85 : decode cX6_swap 85 = .ok (.iadd, 1) := by decide +kernel
theorem dX6_swap_86 : decode cX6_swap 86 = .ok (.istore_n 3, 1) := by decide +kernel
theorem dX6_swap_87 : decode cX6_swap 87 = .ok (.iload 7, 2) := by decide +kernel
theorem dX6_swap_89 : decode cX6_swap 89 = .ok (.ifCond .eq 21, 3) := by decide +kernel
theorem dX6_swap_92 : decode cX6_swap 92 = .ok (.iload 4, 2) := by decide +kernel
theorem dX6_swap_94 : decode cX6_swap 94 = .ok (.bipush (-5), 2) := by decide +kernel
theorem dX6_swap_96 : decode cX6_swap 96 = .ok (.if_icmp .ne 14, 3) := by decide +kernel
theorem dX6_swap_99 : decode cX6_swap 99 = .ok (.bipush 10, 2) := by decide +kernel
theorem dX6_swap_101 : decode cX6_swap 101 = .ok (.iload 5, 2) := by decide +kernel
theorem dX6_swap_103 : decode cX6_swap 103 = .ok (.imul, 1) := by decide +kernel
theorem dX6_swap_104 : decode cX6_swap 104 = .ok (.iload 6, 2) := by decide +kernel
theorem dX6_swap_106 : decode cX6_swap 106 = .ok (.iadd, 1) := by decide +kernel
theorem dX6_swap_107 : decode cX6_swap 107 = .ok (.goto 5, 3) := by decide +kernel
theorem dX6_swap_110 : decode cX6_swap 110 = .ok (.iload 4, 2) := by decide +kernel
theorem dX6_swap_112 : decode cX6_swap 112 = .ok (.istore 4, 2) := by decide +kernel
theorem dX6_swap_114 : decode cX6_swap 114 = .ok (.iinc 6 1, 3) := by decide +kernel
theorem dX6_swap_117 : decode cX6_swap 117 = .ok (.goto (-65), 3) := by decide +kernel
theorem dX6_swap_120 : decode cX6_swap 120 = .ok (.iinc 5 1, 3) := by decide +kernel
theorem dX6_swap_123 : decode cX6_swap 123 = .ok (.goto (-94), 3) := by decide +kernel
theorem dX6_swap_126 : decode cX6_swap 126 = .ok (.iload_n 1, 1) := by decide +kernel
theorem dX6_swap_127 : decode cX6_swap 127 = .ok (.ifCond .ne 7, 3) := by decide +kernel
theorem dX6_swap_130 : decode cX6_swap 130 = .ok (.iload_n 3, 1) := by decide +kernel
theorem dX6_swap_131 : decode cX6_swap 131 = .ok (.goto 5, 3) := by decide +kernel
theorem dX6_swap_134 : decode cX6_swap 134 = .ok (.iload 4, 2) := by decide +kernel
theorem dX6_swap_136 : decode cX6_swap 136 = .ok (.ireturn, 1) := by decide +kernel
theorem dX6_book_0 : decode cX6_book 0 = .ok (.iload_n 1, 1) := by decide +kernel
theorem dX6_book_1 : decode cX6_book 1 = .ok (.iconst (-1), 1) := by decide +kernel
theorem dX6_book_2 : decode cX6_book 2 = .ok (.if_icmp .ne 12, 3) := by decide +kernel
theorem dX6_book_5 : decode cX6_book 5 = .ok (.aload_n 0, 1) := by decide +kernel
theorem dX6_book_6 : decode cX6_book 6 = .ok (.getfield 7, 3) := by decide +kernel
theorem dX6_book_9 : decode cX6_book 9 = .ok (.iconst 2, 1) := by decide +kernel
theorem dX6_book_10 : decode cX6_book 10 = .ok (.iconst 0, 1) := by decide +kernel
theorem dX6_book_11 : decode cX6_book 11 = .ok (.iastore, 1) := by decide +kernel
theorem dX6_book_12 : decode cX6_book 12 = .ok (.iconst 0, 1) := by decide +kernel
theorem dX6_book_13 : decode cX6_book 13 = .ok (.ireturn, 1) := by decide +kernel
theorem dX6_book_14 : decode cX6_book 14 = .ok (.aload_n 0, 1) := by decide +kernel
theorem dX6_book_15 : decode cX6_book 15 = .ok (.iload_n 1, 1) := by decide +kernel
theorem dX6_book_16 : decode cX6_book 16 = .ok (.invokevirtual 156, 3) := by decide +kernel
theorem dX6_book_19 : decode cX6_book 19 = .ok (.ifCond .ne 6, 3) := by decide +kernel
theorem dX6_book_22 : decode cX6_book 22 = .ok (.bipush (-2), 2) := by decide +kernel
theorem dX6_book_24 : decode cX6_book 24 = .ok (.ireturn, 1) := by decide +kernel
theorem dX6_book_25 : decode cX6_book 25 = .ok (.aload_n 0, 1) := by decide +kernel
theorem dX6_book_26 : decode cX6_book 26 = .ok (.getfield 7, 3) := by decide +kernel
theorem dX6_book_29 : decode cX6_book 29 = .ok (.iconst 2, 1) := by decide +kernel
theorem dX6_book_30 : decode cX6_book 30 = .ok (.iaload, 1) := by decide +kernel
theorem dX6_book_31 : decode cX6_book 31 = .ok (.bipush 10, 2) := by decide +kernel
theorem dX6_book_33 : decode cX6_book 33 = .ok (.if_icmp .ne 6, 3) := by decide +kernel
theorem dX6_book_36 : decode cX6_book 36 = .ok (.bipush (-4), 2) := by decide +kernel
theorem dX6_book_38 : decode cX6_book 38 = .ok (.ireturn, 1) := by decide +kernel
theorem dX6_book_39 : decode cX6_book 39 = .ok (.aload_n 0, 1) := by decide +kernel
theorem dX6_book_40 : decode cX6_book 40 = .ok (.getfield 7, 3) := by decide +kernel
theorem dX6_book_43 : decode cX6_book 43 = .ok (.bipush 126, 2) := by decide +kernel
theorem dX6_book_45 : decode cX6_book 45 = .ok (.aload_n 0, 1) := by decide +kernel
theorem dX6_book_46 : decode cX6_book 46 = .ok (.getfield 7, 3) := by decide +kernel
theorem dX6_book_49 : decode cX6_book 49 = .ok (.iconst 2, 1) := by decide +kernel
theorem dX6_book_50 : decode cX6_book 50 = .ok (.iaload, 1) := by decide +kernel
theorem dX6_book_51 : decode cX6_book 51 = .ok (.iadd, 1) := by decide +kernel
theorem dX6_book_52 : decode cX6_book 52 = .ok (.iload_n 1, 1) := by decide +kernel
theorem dX6_book_53 : decode cX6_book 53 = .ok (.iastore, 1) := by decide +kernel
theorem dX6_book_54 : decode cX6_book 54 = .ok (.aload_n 0, 1) := by decide +kernel
theorem dX6_book_55 : decode cX6_book 55 = .ok (.getfield 7, 3) := by decide +kernel
theorem dX6_book_58 : decode cX6_book 58 = .ok (.iconst 2, 1) := by decide +kernel
theorem dX6_book_59 : decode cX6_book 59 = .ok (.dup2, 1) := by decide +kernel
theorem dX6_book_60 : decode cX6_book 60 = .ok (.iaload, 1) := by decide +kernel
theorem dX6_book_61 : decode cX6_book 61 = .ok (.iconst 1, 1) := by decide +kernel
theorem dX6_book_62 : decode cX6_book 62 = .ok (.iadd, 1) := by decide +kernel
theorem dX6_book_63 : decode cX6_book 63 = .ok (.iastore, 1) := by decide +kernel
theorem dX6_book_64 : decode cX6_book 64 = .ok (.aload_n 0, 1) := by decide +kernel
theorem dX6_book_65 : decode cX6_book 65 = .ok (.getfield 7, 3) := by decide +kernel
theorem dX6_book_68 : decode cX6_book 68 = .ok (.iconst 2, 1) := by decide +kernel
theorem dX6_book_69 : decode cX6_book 69 = .ok (.iaload, 1) := by decide +kernel
theorem dX6_book_70 : decode cX6_book 70 = .ok (.ireturn, 1) := by decide +kernel
theorem dX6_looked_0 : decode cX6_looked 0 = .ok (.iload_n 1, 1) := by decide +kernel
theorem dX6_looked_1 : decode cX6_looked 1 = .ok (.iconst 0, 1) := by decide +kernel
theorem dX6_looked_2 : decode cX6_looked 2 = .ok (.iconst 1, 1) := by decide +kernel
theorem dX6_looked_3 : decode cX6_looked 3 = .ok (.invokestatic 45, 3) := by decide +kernel
theorem dX6_looked_6 : decode cX6_looked 6 = .ok (.ifCond .ne 5, 3) := by decide +kernel
theorem dX6_looked_9 : decode cX6_looked 9 = .ok (.iconst (-1), 1) := by decide +kernel
theorem dX6_looked_10 : decode cX6_looked 10 = .ok (.ireturn, 1) := by decide +kernel
theorem dX6_looked_11 : decode cX6_looked 11 = .ok (.aload_n 0, 1) := by decide +kernel
theorem dX6_looked_12 : decode cX6_looked 12 = .ok (.invokevirtual 181, 3) := by decide +kernel
theorem dX6_looked_15 : decode cX6_looked 15 = .ok (.iconst 0, 1) := by decide +kernel
theorem dX6_looked_16 : decode cX6_looked 16 = .ok (.istore_n 2, 1) := by decide +kernel
theorem dX6_looked_17 : decode cX6_looked 17 = .ok (.bipush (-5), 2) := by decide +kernel
theorem dX6_looked_19 : decode cX6_looked 19 = .ok (.istore_n 3, 1) := by decide +kernel
theorem dX6_looked_20 : decode cX6_looked 20 = .ok (.iconst 0, 1) := by decide +kernel
theorem dX6_looked_21 : decode cX6_looked 21 = .ok (.istore 4, 2) := by decide +kernel
theorem dX6_looked_23 : decode cX6_looked 23 = .ok (.iload 4, 2) := by decide +kernel
theorem dX6_looked_25 : decode cX6_looked 25 = .ok (.aload_n 0, 1) := by decide +kernel
theorem dX6_looked_26 : decode cX6_looked 26 = .ok (.getfield 7, 3) := by decide +kernel
theorem dX6_looked_29 : decode cX6_looked 29 = .ok (.iconst 2, 1) := by decide +kernel
theorem dX6_looked_30 : decode cX6_looked 30 = .ok (.iaload, 1) := by decide +kernel
theorem dX6_looked_31 : decode cX6_looked 31 = .ok (.if_icmp .ge 56, 3) := by decide +kernel
theorem dX6_looked_34 : decode cX6_looked 34 = .ok (.aload_n 0, 1) := by decide +kernel
theorem dX6_looked_35 : decode cX6_looked 35 = .ok (.aload_n 0, 1) := by decide +kernel
theorem dX6_looked_36 : decode cX6_looked 36 = .ok (.getfield 7, 3) := by decide +kernel
theorem dX6_looked_39 : decode cX6_looked 39 = .ok (.bipush 126, 2) := by decide +kernel
theorem dX6_looked_41 : decode cX6_looked 41 = .ok (.iload 4, 2) := by decide +kernel
theorem dX6_looked_43 : decode cX6_looked 43 = .ok (.iadd, 1) := by decide +kernel
theorem dX6_looked_44 : decode cX6_looked 44 = .ok (.iaload, 1) := by decide +kernel
theorem dX6_looked_45 : decode cX6_looked 45 = .ok (.invokevirtual 205, 3) := by decide +kernel
theorem dX6_looked_48 : decode cX6_looked 48 = .ok (.istore 5, 2) := by decide +kernel
theorem dX6_looked_50 : decode cX6_looked 50 = .ok (.iload_n 2, 1) := by decide +kernel
theorem dX6_looked_51 : decode cX6_looked 51 = .ok (.iload 5, 2) := by decide +kernel
theorem dX6_looked_53 : decode cX6_looked 53 = .ok (.ifCond .eq 7, 3) := by decide +kernel
theorem dX6_looked_56 : decode cX6_looked 56 = .ok (.iconst 1, 1) := by decide +kernel
theorem dX6_looked_57 : decode cX6_looked 57 = .ok (.goto 4, 3) := by decide +kernel
theorem dX6_looked_60 : decode cX6_looked 60 = .ok (.iconst 0, 1) := by decide +kernel
theorem dX6_looked_61 : decode cX6_looked 61 = .ok (.iadd, 1) := by decide +kernel
theorem dX6_looked_62 : decode cX6_looked 62 = .ok (.istore_n 2, 1) := by decide +kernel
theorem dX6_looked_63 : decode cX6_looked 63 = .ok (.iload 5, 2) := by decide +kernel
theorem dX6_looked_65 : decode cX6_looked 65 = .ok (.ifCond .ne 14, 3) := by decide +kernel
theorem dX6_looked_68 : decode cX6_looked 68 = .ok (.iload_n 3, 1) := by decide +kernel
theorem dX6_looked_69 : decode cX6_looked 69 = .ok (.bipush (-5), 2) := by decide +kernel
theorem dX6_looked_71 : decode cX6_looked 71 = .ok (.if_icmp .ne 8, 3) := by decide +kernel
theorem dX6_looked_74 : decode cX6_looked 74 = .ok (.iload 4, 2) := by decide +kernel
theorem dX6_looked_76 : decode cX6_looked 76 = .ok (.goto 4, 3) := by decide +kernel
theorem dX6_looked_79 : decode cX6_looked 79 = .ok (.iload_n 3, 1) := by decide +kernel
theorem dX6_looked_80 : decode cX6_looked 80 = .ok (.istore_n 3, 1) := by decide +kernel
theorem dX6_looked_81 : decode cX6_looked 81 = .ok (.iinc 4 1, 3) := by decide +kernel
theorem dX6_looked_84 : decode cX6_looked 84 = .ok (.goto (-61), 3) := by decide +kernel
theorem dX6_looked_87 : decode cX6_looked 87 = .ok (.iload_n 1, 1) := by decide +kernel
theorem dX6_looked_88 : decode cX6_looked 88 = .ok (.ifCond .ne 7, 3) := by decide +kernel
theorem dX6_looked_91 : decode cX6_looked 91 = .ok (.iload_n 2, 1) := by decide +kernel
theorem dX6_looked_92 : decode cX6_looked 92 = .ok (.goto 4, 3) := by decide +kernel
theorem dX6_looked_95 : decode cX6_looked 95 = .ok (.iload_n 3, 1) := by decide +kernel
theorem dX6_looked_96 : decode cX6_looked 96 = .ok (.ireturn, 1) := by decide +kernel
theorem dX6_runs_0 : decode cX6_runs 0 = .ok (.aload_n 0, 1) := by decide +kernel
theorem dX6_runs_1 : decode cX6_runs 1 = .ok (.getfield 232, 3) := by decide +kernel
theorem dX6_runs_4 : decode cX6_runs 4 = .ok (.bipush 20, 2) := by decide +kernel
theorem dX6_runs_6 : decode cX6_runs 6 = .ok (.if_icmp .ge 13, 3) := by decide +kernel
theorem dX6_runs_9 : decode cX6_runs 9 = .ok (.aload_n 0, 1) := by decide +kernel
theorem dX6_runs_10 : decode cX6_runs 10 = .ok (.getfield 38, 3) := by decide +kernel
theorem dX6_runs_13 : decode cX6_runs 13 = .ok (.aload_n 0, 1) := by decide +kernel
theorem dX6_runs_14 : decode cX6_runs 14 = .ok (.getfield 232, 3) := by decide +kernel
theorem dX6_runs_17 : decode cX6_runs 17 = .ok (.iload_n 1, 1) := by decide +kernel
theorem dX6_runs_18 : decode cX6_runs 18 = .ok (.iastore, 1) := by decide +kernel
theorem dX6_runs_19 : decode cX6_runs 19 = .ok (.aload_n 0, 1) := by decide +kernel
theorem dX6_runs_20 : decode cX6_runs 20 = .ok (.dup, 1) := by decide +kernel
theorem dX6_runs_21 : decode cX6_runs 21 = .ok (.getfield 232, 3) := by decide +kernel
theorem dX6_runs_24 : decode cX6_runs 24 = .ok (.iconst 1, 1) := by decide +kernel
theorem dX6_runs_25 : decode cX6_runs 25 = .ok (.iadd, 1) := by decide +kernel
theorem dX6_runs_26 : decode cX6_runs 26 = .ok (.putfield 232, 3) := by decide +kernel
theorem dX6_runs_29 : decode cX6_runs 29 = .ok (.return_, 1) := by decide +kernel
theorem dX6_isUnder_0 : decode cX6_isUnder 0 = .ok (.iload_n 1, 1) := by decide +kernel
theorem dX6_isUnder_1 : decode cX6_isUnder 1 = .ok (.ifCond .eq 28, 3) := by decide +kernel
theorem dX6_isUnder_4 : decode cX6_isUnder 4 = .ok (.iload_n 1, 1) := by decide +kernel
theorem dX6_isUnder_5 : decode cX6_isUnder 5 = .ok (.iload_n 0, 1) := by decide +kernel
theorem dX6_isUnder_6 : decode cX6_isUnder 6 = .ok (.if_icmp .eq 23, 3) := by decide +kernel
theorem dX6_isUnder_9 : decode cX6_isUnder 9 = .ok (.iload_n 1, 1) := by decide +kernel
theorem dX6_isUnder_10 : decode cX6_isUnder 10 = .ok (.iconst 2, 1) := by decide +kernel
theorem dX6_isUnder_11 : decode cX6_isUnder 11 = .ok (.if_icmp .ne 8, 3) := by decide +kernel
theorem dX6_isUnder_14 : decode cX6_isUnder 14 = .ok (.iload_n 0, 1) := by decide +kernel
theorem dX6_isUnder_15 : decode cX6_isUnder 15 = .ok (.iconst 4, 1) := by decide +kernel
theorem dX6_isUnder_16 : decode cX6_isUnder 16 = .ok (.if_icmp .eq 13, 3) := by decide +kernel
theorem dX6_isUnder_19 : decode cX6_isUnder 19 = .ok (.iload_n 1, 1) := by decide +kernel
theorem dX6_isUnder_20 : decode cX6_isUnder 20 = .ok (.iconst 3, 1) := by decide +kernel
theorem dX6_isUnder_21 : decode cX6_isUnder 21 = .ok (.if_icmp .ne 12, 3) := by decide +kernel
theorem dX6_isUnder_24 : decode cX6_isUnder 24 = .ok (.iload_n 0, 1) := by decide +kernel
theorem dX6_isUnder_25 : decode cX6_isUnder 25 = .ok (.iconst 4, 1) := by decide +kernel
theorem dX6_isUnder_26 : decode cX6_isUnder 26 = .ok (.if_icmp .le 7, 3) := by decide +kernel
theorem dX6_isUnder_29 : decode cX6_isUnder 29 = .ok (.iconst 1, 1) := by decide +kernel
theorem dX6_isUnder_30 : decode cX6_isUnder 30 = .ok (.goto 4, 3) := by decide +kernel
theorem dX6_isUnder_33 : decode cX6_isUnder 33 = .ok (.iconst 0, 1) := by decide +kernel
theorem dX6_isUnder_34 : decode cX6_isUnder 34 = .ok (.ireturn, 1) := by decide +kernel
theorem dX6_plainKnows_0 : decode cX6_plainKnows 0 = .ok (.aload_n 0, 1) := by decide +kernel
theorem dX6_plainKnows_1 : decode cX6_plainKnows 1 = .ok (.iconst 1, 1) := by decide +kernel
theorem dX6_plainKnows_2 : decode cX6_plainKnows 2 = .ok (.invokevirtual 235, 3) := by decide +kernel
theorem dX6_plainKnows_5 : decode cX6_plainKnows 5 = .ok (.iload_n 1, 1) := by decide +kernel
theorem dX6_plainKnows_6 : decode cX6_plainKnows 6 = .ok (.aload_n 0, 1) := by decide +kernel
theorem dX6_plainKnows_7 : decode cX6_plainKnows 7 = .ok (.getfield 238, 3) := by decide +kernel
theorem dX6_plainKnows_10 : decode cX6_plainKnows 10 = .ok (.iadd, 1) := by decide +kernel
theorem dX6_plainKnows_11 : decode cX6_plainKnows 11 = .ok (.ireturn, 1) := by decide +kernel
theorem dX6_knowsActs_0 : decode cX6_knowsActs 0 = .ok (.aload_n 0, 1) := by decide +kernel
theorem dX6_knowsActs_1 : decode cX6_knowsActs 1 = .ok (.getfield 241, 3) := by decide +kernel
theorem dX6_knowsActs_4 : decode cX6_knowsActs 4 = .ok (.iconst 1, 1) := by decide +kernel
theorem dX6_knowsActs_5 : decode cX6_knowsActs 5 = .ok (.if_icmp .ne 17, 3) := by decide +kernel
theorem dX6_knowsActs_8 : decode cX6_knowsActs 8 = .ok (.aload_n 0, 1) := by decide +kernel
theorem dX6_knowsActs_9 : decode cX6_knowsActs 9 = .ok (.bipush 11, 2) := by decide +kernel
theorem dX6_knowsActs_11 : decode cX6_knowsActs 11 = .ok (.invokevirtual 235, 3) := by decide +kernel
theorem dX6_knowsActs_14 : decode cX6_knowsActs 14 = .ok (.aload_n 0, 1) := by decide +kernel
theorem dX6_knowsActs_15 : decode cX6_knowsActs 15 = .ok (.iload_n 1, 1) := by decide +kernel
theorem dX6_knowsActs_16 : decode cX6_knowsActs 16 = .ok (.iconst 3, 1) := by decide +kernel
theorem dX6_knowsActs_17 : decode cX6_knowsActs 17 = .ok (.imul, 1) := by decide +kernel
theorem dX6_knowsActs_18 : decode cX6_knowsActs 18 = .ok (.invokevirtual 244, 3) := by decide +kernel
theorem dX6_knowsActs_21 : decode cX6_knowsActs 21 = .ok (.ireturn, 1) := by decide +kernel
theorem dX6_knowsActs_22 : decode cX6_knowsActs 22 = .ok (.aload_n 0, 1) := by decide +kernel
theorem dX6_knowsActs_23 : decode cX6_knowsActs 23 = .ok (.getfield 241, 3) := by decide +kernel
theorem dX6_knowsActs_26 : decode cX6_knowsActs 26 = .ok (.iconst 5, 1) := by decide +kernel
theorem dX6_knowsActs_27 : decode cX6_knowsActs 27 = .ok (.if_icmp .ne 20, 3) := by decide +kernel
theorem dX6_knowsActs_30 : decode cX6_knowsActs 30 = .ok (.aload_n 0, 1) := by decide +kernel
theorem dX6_knowsActs_31 : decode cX6_knowsActs 31 = .ok (.bipush 51, 2) := by decide +kernel
theorem dX6_knowsActs_33 : decode cX6_knowsActs 33 = .ok (.invokevirtual 235, 3) := by decide +kernel
theorem dX6_knowsActs_36 : decode cX6_knowsActs 36 = .ok (.aload_n 0, 1) := by decide +kernel
theorem dX6_knowsActs_37 : decode cX6_knowsActs 37 = .ok (.iload_n 1, 1) := by decide +kernel
theorem dX6_knowsActs_38 : decode cX6_knowsActs 38 = .ok (.invokevirtual 244, 3) := by decide +kernel
theorem dX6_knowsActs_41 : decode cX6_knowsActs 41 = .ok (.aload_n 0, 1) := by decide +kernel
theorem dX6_knowsActs_42 : decode cX6_knowsActs 42 = .ok (.getfield 238, 3) := by decide +kernel
theorem dX6_knowsActs_45 : decode cX6_knowsActs 45 = .ok (.ixor, 1) := by decide +kernel
theorem dX6_knowsActs_46 : decode cX6_knowsActs 46 = .ok (.ireturn, 1) := by decide +kernel
theorem dX6_knowsActs_47 : decode cX6_knowsActs 47 = .ok (.aload_n 0, 1) := by decide +kernel
theorem dX6_knowsActs_48 : decode cX6_knowsActs 48 = .ok (.iload_n 1, 1) := by decide +kernel
theorem dX6_knowsActs_49 : decode cX6_knowsActs 49 = .ok (.invokevirtual 244, 3) := by decide +kernel
theorem dX6_knowsActs_52 : decode cX6_knowsActs 52 = .ok (.ireturn, 1) := by decide +kernel
theorem dX6_plainDoes_0 : decode cX6_plainDoes 0 = .ok (.aload_n 0, 1) := by decide +kernel
theorem dX6_plainDoes_1 : decode cX6_plainDoes 1 = .ok (.iconst 2, 1) := by decide +kernel
theorem dX6_plainDoes_2 : decode cX6_plainDoes 2 = .ok (.invokevirtual 235, 3) := by decide +kernel
theorem dX6_plainDoes_5 : decode cX6_plainDoes 5 = .ok (.aload_n 0, 1) := by decide +kernel
theorem dX6_plainDoes_6 : decode cX6_plainDoes 6 = .ok (.iload_n 1, 1) := by decide +kernel
theorem dX6_plainDoes_7 : decode cX6_plainDoes 7 = .ok (.invokevirtual 247, 3) := by decide +kernel
theorem dX6_plainDoes_10 : decode cX6_plainDoes 10 = .ok (.aload_n 0, 1) := by decide +kernel
theorem dX6_plainDoes_11 : decode cX6_plainDoes 11 = .ok (.getfield 250, 3) := by decide +kernel
theorem dX6_plainDoes_14 : decode cX6_plainDoes 14 = .ok (.isub, 1) := by decide +kernel
theorem dX6_plainDoes_15 : decode cX6_plainDoes 15 = .ok (.ireturn, 1) := by decide +kernel
theorem dX6_doesActs_0 : decode cX6_doesActs 0 = .ok (.aload_n 0, 1) := by decide +kernel
theorem dX6_doesActs_1 : decode cX6_doesActs 1 = .ok (.getfield 241, 3) := by decide +kernel
theorem dX6_doesActs_4 : decode cX6_doesActs 4 = .ok (.iconst 2, 1) := by decide +kernel
theorem dX6_doesActs_5 : decode cX6_doesActs 5 = .ok (.invokestatic 253, 3) := by decide +kernel
theorem dX6_doesActs_8 : decode cX6_doesActs 8 = .ok (.ifCond .eq 16, 3) := by decide +kernel
theorem dX6_doesActs_11 : decode cX6_doesActs 11 = .ok (.aload_n 0, 1) := by decide +kernel
theorem dX6_doesActs_12 : decode cX6_doesActs 12 = .ok (.bipush 21, 2) := by decide +kernel
theorem dX6_doesActs_14 : decode cX6_doesActs 14 = .ok (.invokevirtual 235, 3) := by decide +kernel
theorem dX6_doesActs_17 : decode cX6_doesActs 17 = .ok (.aload_n 0, 1) := by decide +kernel
theorem dX6_doesActs_18 : decode cX6_doesActs 18 = .ok (.iload_n 1, 1) := by decide +kernel
theorem dX6_doesActs_19 : decode cX6_doesActs 19 = .ok (.invokevirtual 256, 3) := by decide +kernel
theorem dX6_doesActs_22 : decode cX6_doesActs 22 = .ok (.ineg, 1) := by decide +kernel
theorem dX6_doesActs_23 : decode cX6_doesActs 23 = .ok (.ireturn, 1) := by decide +kernel
theorem dX6_doesActs_24 : decode cX6_doesActs 24 = .ok (.aload_n 0, 1) := by decide +kernel
theorem dX6_doesActs_25 : decode cX6_doesActs 25 = .ok (.getfield 241, 3) := by decide +kernel
theorem dX6_doesActs_28 : decode cX6_doesActs 28 = .ok (.bipush 6, 2) := by decide +kernel
theorem dX6_doesActs_30 : decode cX6_doesActs 30 = .ok (.if_icmp .ne 20, 3) := by decide +kernel
theorem dX6_doesActs_33 : decode cX6_doesActs 33 = .ok (.aload_n 0, 1) := by decide +kernel
theorem dX6_doesActs_34 : decode cX6_doesActs 34 = .ok (.bipush 61, 2) := by decide +kernel
theorem dX6_doesActs_36 : decode cX6_doesActs 36 = .ok (.invokevirtual 235, 3) := by decide +kernel
theorem dX6_doesActs_39 : decode cX6_doesActs 39 = .ok (.aload_n 0, 1) := by decide +kernel
theorem dX6_doesActs_40 : decode cX6_doesActs 40 = .ok (.iload_n 1, 1) := by decide +kernel
theorem dX6_doesActs_41 : decode cX6_doesActs 41 = .ok (.invokevirtual 256, 3) := by decide +kernel
theorem dX6_doesActs_44 : decode cX6_doesActs 44 = .ok (.aload_n 0, 1) := by decide +kernel
theorem dX6_doesActs_45 : decode cX6_doesActs 45 = .ok (.getfield 250, 3) := by decide +kernel
theorem dX6_doesActs_48 : decode cX6_doesActs 48 = .ok (.iadd, 1) := by decide +kernel
theorem dX6_doesActs_49 : decode cX6_doesActs 49 = .ok (.ireturn, 1) := by decide +kernel
theorem dX6_doesActs_50 : decode cX6_doesActs 50 = .ok (.aload_n 0, 1) := by decide +kernel
theorem dX6_doesActs_51 : decode cX6_doesActs 51 = .ok (.iload_n 1, 1) := by decide +kernel
theorem dX6_doesActs_52 : decode cX6_doesActs 52 = .ok (.invokevirtual 256, 3) := by decide +kernel
theorem dX6_doesActs_55 : decode cX6_doesActs 55 = .ok (.ireturn, 1) := by decide +kernel
theorem dX6_plainTells_0 : decode cX6_plainTells 0 = .ok (.aload_n 0, 1) := by decide +kernel
theorem dX6_plainTells_1 : decode cX6_plainTells 1 = .ok (.iconst 3, 1) := by decide +kernel
theorem dX6_plainTells_2 : decode cX6_plainTells 2 = .ok (.invokevirtual 235, 3) := by decide +kernel
theorem dX6_plainTells_5 : decode cX6_plainTells 5 = .ok (.aload_n 0, 1) := by decide +kernel
theorem dX6_plainTells_6 : decode cX6_plainTells 6 = .ok (.iload_n 1, 1) := by decide +kernel
theorem dX6_plainTells_7 : decode cX6_plainTells 7 = .ok (.invokevirtual 259, 3) := by decide +kernel
theorem dX6_plainTells_10 : decode cX6_plainTells 10 = .ok (.iconst 2, 1) := by decide +kernel
theorem dX6_plainTells_11 : decode cX6_plainTells 11 = .ok (.imul, 1) := by decide +kernel
theorem dX6_plainTells_12 : decode cX6_plainTells 12 = .ok (.ireturn, 1) := by decide +kernel
theorem dX6_tellsActs_0 : decode cX6_tellsActs 0 = .ok (.aload_n 0, 1) := by decide +kernel
theorem dX6_tellsActs_1 : decode cX6_tellsActs 1 = .ok (.getfield 241, 3) := by decide +kernel
theorem dX6_tellsActs_4 : decode cX6_tellsActs 4 = .ok (.iconst 3, 1) := by decide +kernel
theorem dX6_tellsActs_5 : decode cX6_tellsActs 5 = .ok (.invokestatic 253, 3) := by decide +kernel
theorem dX6_tellsActs_8 : decode cX6_tellsActs 8 = .ok (.ifCond .eq 18, 3) := by decide +kernel
theorem dX6_tellsActs_11 : decode cX6_tellsActs 11 = .ok (.aload_n 0, 1) := by decide +kernel
theorem dX6_tellsActs_12 : decode cX6_tellsActs 12 = .ok (.bipush 31, 2) := by decide +kernel
theorem dX6_tellsActs_14 : decode cX6_tellsActs 14 = .ok (.invokevirtual 235, 3) := by decide +kernel
theorem dX6_tellsActs_17 : decode cX6_tellsActs 17 = .ok (.aload_n 0, 1) := by decide +kernel
theorem dX6_tellsActs_18 : decode cX6_tellsActs 18 = .ok (.iload_n 1, 1) := by decide +kernel
theorem dX6_tellsActs_19 : decode cX6_tellsActs 19 = .ok (.invokevirtual 262, 3) := by decide +kernel
theorem dX6_tellsActs_22 : decode cX6_tellsActs 22 = .ok (.bipush 7, 2) := by decide +kernel
theorem dX6_tellsActs_24 : decode cX6_tellsActs 24 = .ok (.ixor, 1) := by decide +kernel
theorem dX6_tellsActs_25 : decode cX6_tellsActs 25 = .ok (.ireturn, 1) := by decide +kernel
theorem dX6_tellsActs_26 : decode cX6_tellsActs 26 = .ok (.aload_n 0, 1) := by decide +kernel
theorem dX6_tellsActs_27 : decode cX6_tellsActs 27 = .ok (.getfield 241, 3) := by decide +kernel
theorem dX6_tellsActs_30 : decode cX6_tellsActs 30 = .ok (.iconst 4, 1) := by decide +kernel
theorem dX6_tellsActs_31 : decode cX6_tellsActs 31 = .ok (.if_icmp .ne 25, 3) := by decide +kernel
theorem dX6_tellsActs_34 : decode cX6_tellsActs 34 = .ok (.aload_n 0, 1) := by decide +kernel
theorem dX6_tellsActs_35 : decode cX6_tellsActs 35 = .ok (.bipush 41, 2) := by decide +kernel
theorem dX6_tellsActs_37 : decode cX6_tellsActs 37 = .ok (.invokevirtual 235, 3) := by decide +kernel
theorem dX6_tellsActs_40 : decode cX6_tellsActs 40 = .ok (.aload_n 0, 1) := by decide +kernel
theorem dX6_tellsActs_41 : decode cX6_tellsActs 41 = .ok (.iload_n 1, 1) := by decide +kernel
theorem dX6_tellsActs_42 : decode cX6_tellsActs 42 = .ok (.iconst 1, 1) := by decide +kernel
theorem dX6_tellsActs_43 : decode cX6_tellsActs 43 = .ok (.isub, 1) := by decide +kernel
theorem dX6_tellsActs_44 : decode cX6_tellsActs 44 = .ok (.invokevirtual 262, 3) := by decide +kernel
theorem dX6_tellsActs_47 : decode cX6_tellsActs 47 = .ok (.istore_n 2, 1) := by decide +kernel
theorem dX6_tellsActs_48 : decode cX6_tellsActs 48 = .ok (.iload_n 2, 1) := by decide +kernel
theorem dX6_tellsActs_49 : decode cX6_tellsActs 49 = .ok (.aload_n 0, 1) := by decide +kernel
theorem dX6_tellsActs_50 : decode cX6_tellsActs 50 = .ok (.iconst 2, 1) := by decide +kernel
theorem dX6_tellsActs_51 : decode cX6_tellsActs 51 = .ok (.invokevirtual 247, 3) := by decide +kernel
theorem dX6_tellsActs_54 : decode cX6_tellsActs 54 = .ok (.iadd, 1) := by decide +kernel
theorem dX6_tellsActs_55 : decode cX6_tellsActs 55 = .ok (.ireturn, 1) := by decide +kernel
theorem dX6_tellsActs_56 : decode cX6_tellsActs 56 = .ok (.aload_n 0, 1) := by decide +kernel
theorem dX6_tellsActs_57 : decode cX6_tellsActs 57 = .ok (.iload_n 1, 1) := by decide +kernel
theorem dX6_tellsActs_58 : decode cX6_tellsActs 58 = .ok (.invokevirtual 262, 3) := by decide +kernel
theorem dX6_tellsActs_61 : decode cX6_tellsActs 61 = .ok (.ireturn, 1) := by decide +kernel
theorem dX6_act_0 : decode cX6_act 0 = .ok (.aload_n 0, 1) := by decide +kernel
theorem dX6_act_1 : decode cX6_act 1 = .ok (.iconst 0, 1) := by decide +kernel
theorem dX6_act_2 : decode cX6_act 2 = .ok (.putfield 232, 3) := by decide +kernel
theorem dX6_act_5 : decode cX6_act 5 = .ok (.aload_n 0, 1) := by decide +kernel
theorem dX6_act_6 : decode cX6_act 6 = .ok (.iload_n 1, 1) := by decide +kernel
theorem dX6_act_7 : decode cX6_act 7 = .ok (.invokevirtual 152, 3) := by decide +kernel
theorem dX6_act_10 : decode cX6_act 10 = .ok (.ifCond .eq 12, 3) := by decide +kernel
theorem dX6_act_13 : decode cX6_act 13 = .ok (.iload_n 2, 1) := by decide +kernel
theorem dX6_act_14 : decode cX6_act 14 = .ok (.iconst 0, 1) := by decide +kernel
theorem dX6_act_15 : decode cX6_act 15 = .ok (.iconst 2, 1) := by decide +kernel
theorem dX6_act_16 : decode cX6_act 16 = .ok (.invokestatic 45, 3) := by decide +kernel
theorem dX6_act_19 : decode cX6_act 19 = .ok (.ifCond .ne 5, 3) := by decide +kernel
theorem dX6_act_22 : decode cX6_act 22 = .ok (.iconst 0, 1) := by decide +kernel
theorem dX6_act_23 : decode cX6_act 23 = .ok (.ireturn, 1) := by decide +kernel
theorem dX6_act_24 : decode cX6_act 24 = .ok (.aload_n 0, 1) := by decide +kernel
theorem dX6_act_25 : decode cX6_act 25 = .ok (.aload_n 0, 1) := by decide +kernel
theorem dX6_act_26 : decode cX6_act 26 = .ok (.getfield 7, 3) := by decide +kernel
theorem dX6_act_29 : decode cX6_act 29 = .ok (.bipush 110, 2) := by decide +kernel
theorem dX6_act_31 : decode cX6_act 31 = .ok (.iload_n 1, 1) := by decide +kernel
theorem dX6_act_32 : decode cX6_act 32 = .ok (.iadd, 1) := by decide +kernel
theorem dX6_act_33 : decode cX6_act 33 = .ok (.iaload, 1) := by decide +kernel
theorem dX6_act_34 : decode cX6_act 34 = .ok (.putfield 241, 3) := by decide +kernel
theorem dX6_act_37 : decode cX6_act 37 = .ok (.aload_n 0, 1) := by decide +kernel
theorem dX6_act_38 : decode cX6_act 38 = .ok (.iload_n 1, 1) := by decide +kernel
theorem dX6_act_39 : decode cX6_act 39 = .ok (.putfield 238, 3) := by decide +kernel
theorem dX6_act_42 : decode cX6_act 42 = .ok (.aload_n 0, 1) := by decide +kernel
theorem dX6_act_43 : decode cX6_act 43 = .ok (.aload_n 0, 1) := by decide +kernel
theorem dX6_act_44 : decode cX6_act 44 = .ok (.getfield 7, 3) := by decide +kernel
theorem dX6_act_47 : decode cX6_act 47 = .ok (.bipush 114, 2) := by decide +kernel
theorem dX6_act_49 : decode cX6_act 49 = .ok (.iload_n 1, 1) := by decide +kernel
theorem dX6_act_50 : decode cX6_act 50 = .ok (.iadd, 1) := by decide +kernel
theorem dX6_act_51 : decode cX6_act 51 = .ok (.iaload, 1) := by decide +kernel
theorem dX6_act_52 : decode cX6_act 52 = .ok (.putfield 250, 3) := by decide +kernel
theorem dX6_act_55 : decode cX6_act 55 = .ok (.iload_n 2, 1) := by decide +kernel
theorem dX6_act_56 : decode cX6_act 56 = .ok (.ifCond .ne 11, 3) := by decide +kernel
theorem dX6_act_59 : decode cX6_act 59 = .ok (.aload_n 0, 1) := by decide +kernel
theorem dX6_act_60 : decode cX6_act 60 = .ok (.iload_n 3, 1) := by decide +kernel
theorem dX6_act_61 : decode cX6_act 61 = .ok (.invokevirtual 247, 3) := by decide +kernel
theorem dX6_act_64 : decode cX6_act 64 = .ok (.goto 21, 3) := by decide +kernel
theorem dX6_act_67 : decode cX6_act 67 = .ok (.iload_n 2, 1) := by decide +kernel
theorem dX6_act_68 : decode cX6_act 68 = .ok (.iconst 1, 1) := by decide +kernel
theorem dX6_act_69 : decode cX6_act 69 = .ok (.if_icmp .ne 11, 3) := by decide +kernel
theorem dX6_act_72 : decode cX6_act 72 = .ok (.aload_n 0, 1) := by decide +kernel
theorem dX6_act_73 : decode cX6_act 73 = .ok (.iload_n 3, 1) := by decide +kernel
theorem dX6_act_74 : decode cX6_act 74 = .ok (.invokevirtual 259, 3) := by decide +kernel
theorem dX6_act_77 : decode cX6_act 77 = .ok (.goto 8, 3) := by decide +kernel
theorem dX6_act_80 : decode cX6_act 80 = .ok (.aload_n 0, 1) := by decide +kernel
theorem dX6_act_81 : decode cX6_act 81 = .ok (.iload_n 3, 1) := by decide +kernel
theorem dX6_act_82 : decode cX6_act 82 = .ok (.invokevirtual 265, 3) := by decide +kernel
theorem dX6_act_85 : decode cX6_act 85 = .ok (.ireturn, 1) := by decide +kernel
theorem dX6_trace_0 : decode cX6_trace 0 = .ok (.iload_n 1, 1) := by decide +kernel
theorem dX6_trace_1 : decode cX6_trace 1 = .ok (.iconst 0, 1) := by decide +kernel
theorem dX6_trace_2 : decode cX6_trace 2 = .ok (.aload_n 0, 1) := by decide +kernel
theorem dX6_trace_3 : decode cX6_trace 3 = .ok (.getfield 232, 3) := by decide +kernel
theorem dX6_trace_6 : decode cX6_trace 6 = .ok (.bipush 20, 2) := by decide +kernel
theorem dX6_trace_8 : decode cX6_trace 8 = .ok (.if_icmp .ge 10, 3) := by decide +kernel
theorem dX6_trace_11 : decode cX6_trace 11 = .ok (.aload_n 0, 1) := by decide +kernel
theorem dX6_trace_12 : decode cX6_trace 12 = .ok (.getfield 232, 3) := by decide +kernel
theorem dX6_trace_15 : decode cX6_trace 15 = .ok (.goto 5, 3) := by decide +kernel
theorem dX6_trace_18 : decode cX6_trace 18 = .ok (.bipush 20, 2) := by decide +kernel
theorem dX6_trace_20 : decode cX6_trace 20 = .ok (.iconst 1, 1) := by decide +kernel
theorem dX6_trace_21 : decode cX6_trace 21 = .ok (.isub, 1) := by decide +kernel
theorem dX6_trace_22 : decode cX6_trace 22 = .ok (.invokestatic 45, 3) := by decide +kernel
theorem dX6_trace_25 : decode cX6_trace 25 = .ok (.ifCond .eq 12, 3) := by decide +kernel
theorem dX6_trace_28 : decode cX6_trace 28 = .ok (.aload_n 0, 1) := by decide +kernel
theorem dX6_trace_29 : decode cX6_trace 29 = .ok (.getfield 38, 3) := by decide +kernel
theorem dX6_trace_32 : decode cX6_trace 32 = .ok (.iload_n 1, 1) := by decide +kernel
theorem dX6_trace_33 : decode cX6_trace 33 = .ok (.iaload, 1) := by decide +kernel
theorem dX6_trace_34 : decode cX6_trace 34 = .ok (.goto 4, 3) := by decide +kernel
theorem dX6_trace_37 : decode cX6_trace 37 = .ok (.iconst (-1), 1) := by decide +kernel
theorem dX6_trace_38 : decode cX6_trace 38 = .ok (.ireturn, 1) := by decide +kernel
theorem dX6_as_0 : decode cX6_as 0 = .ok (.aload_n 0, 1) := by decide +kernel
theorem dX6_as_1 : decode cX6_as 1 = .ok (.iload_n 1, 1) := by decide +kernel
theorem dX6_as_2 : decode cX6_as 2 = .ok (.invokevirtual 152, 3) := by decide +kernel
theorem dX6_as_5 : decode cX6_as 5 = .ok (.ifCond .eq 13, 3) := by decide +kernel
theorem dX6_as_8 : decode cX6_as 8 = .ok (.iload_n 2, 1) := by decide +kernel
theorem dX6_as_9 : decode cX6_as 9 = .ok (.iconst 0, 1) := by decide +kernel
theorem dX6_as_10 : decode cX6_as 10 = .ok (.bipush 6, 2) := by decide +kernel
theorem dX6_as_12 : decode cX6_as 12 = .ok (.invokestatic 45, 3) := by decide +kernel
theorem dX6_as_15 : decode cX6_as 15 = .ok (.ifCond .ne 5, 3) := by decide +kernel
theorem dX6_as_18 : decode cX6_as 18 = .ok (.iconst (-1), 1) := by decide +kernel
theorem dX6_as_19 : decode cX6_as 19 = .ok (.ireturn, 1) := by decide +kernel
theorem dX6_as_20 : decode cX6_as 20 = .ok (.aload_n 0, 1) := by decide +kernel
theorem dX6_as_21 : decode cX6_as 21 = .ok (.getfield 7, 3) := by decide +kernel
theorem dX6_as_24 : decode cX6_as 24 = .ok (.bipush 110, 2) := by decide +kernel
theorem dX6_as_26 : decode cX6_as 26 = .ok (.iload_n 1, 1) := by decide +kernel
theorem dX6_as_27 : decode cX6_as 27 = .ok (.iadd, 1) := by decide +kernel
theorem dX6_as_28 : decode cX6_as 28 = .ok (.iaload, 1) := by decide +kernel
theorem dX6_as_29 : decode cX6_as 29 = .ok (.iload_n 2, 1) := by decide +kernel
theorem dX6_as_30 : decode cX6_as 30 = .ok (.invokestatic 253, 3) := by decide +kernel
theorem dX6_as_33 : decode cX6_as 33 = .ok (.ifCond .eq 15, 3) := by decide +kernel
theorem dX6_as_36 : decode cX6_as 36 = .ok (.aload_n 0, 1) := by decide +kernel
theorem dX6_as_37 : decode cX6_as 37 = .ok (.getfield 7, 3) := by decide +kernel
theorem dX6_as_40 : decode cX6_as 40 = .ok (.bipush 114, 2) := by decide +kernel
theorem dX6_as_42 : decode cX6_as 42 = .ok (.iload_n 1, 1) := by decide +kernel
theorem dX6_as_43 : decode cX6_as 43 = .ok (.iadd, 1) := by decide +kernel
theorem dX6_as_44 : decode cX6_as 44 = .ok (.iaload, 1) := by decide +kernel
theorem dX6_as_45 : decode cX6_as 45 = .ok (.goto 5, 3) := by decide +kernel
theorem dX6_as_48 : decode cX6_as 48 = .ok (.bipush (-6), 2) := by decide +kernel
theorem dX6_as_50 : decode cX6_as 50 = .ok (.ireturn, 1) := by decide +kernel
theorem dX6_image_0 : decode cX6_image 0 = .ok (.iconst 0, 1) := by decide +kernel
theorem dX6_image_1 : decode cX6_image 1 = .ok (.istore_n 1, 1) := by decide +kernel
theorem dX6_image_2 : decode cX6_image 2 = .ok (.iload_n 1, 1) := by decide +kernel
theorem dX6_image_3 : decode cX6_image 3 = .ok (.sipush 846, 3) := by decide +kernel
theorem dX6_image_6 : decode cX6_image 6 = .ok (.if_icmp .ge 21, 3) := by decide +kernel
theorem dX6_image_9 : decode cX6_image 9 = .ok (.aload_n 0, 1) := by decide +kernel
theorem dX6_image_10 : decode cX6_image 10 = .ok (.getfield 13, 3) := by decide +kernel
theorem dX6_image_13 : decode cX6_image 13 = .ok (.iload_n 1, 1) := by decide +kernel
theorem dX6_image_14 : decode cX6_image 14 = .ok (.aload_n 0, 1) := by decide +kernel
theorem dX6_image_15 : decode cX6_image 15 = .ok (.getfield 7, 3) := by decide +kernel
theorem dX6_image_18 : decode cX6_image 18 = .ok (.iload_n 1, 1) := by decide +kernel
theorem dX6_image_19 : decode cX6_image 19 = .ok (.iaload, 1) := by decide +kernel
theorem dX6_image_20 : decode cX6_image 20 = .ok (.iastore, 1) := by decide +kernel
theorem dX6_image_21 : decode cX6_image 21 = .ok (.iinc 1 1, 3) := by decide +kernel
theorem dX6_image_24 : decode cX6_image 24 = .ok (.goto (-22), 3) := by decide +kernel
theorem dX6_image_27 : decode cX6_image 27 = .ok (.aload_n 0, 1) := by decide +kernel
theorem dX6_image_28 : decode cX6_image 28 = .ok (.iconst 1, 1) := by decide +kernel
theorem dX6_image_29 : decode cX6_image 29 = .ok (.putfield 268, 3) := by decide +kernel
theorem dX6_image_32 : decode cX6_image 32 = .ok (.aload_n 0, 1) := by decide +kernel
theorem dX6_image_33 : decode cX6_image 33 = .ok (.getfield 7, 3) := by decide +kernel
theorem dX6_image_36 : decode cX6_image 36 = .ok (.iconst 0, 1) := by decide +kernel
theorem dX6_image_37 : decode cX6_image 37 = .ok (.iaload, 1) := by decide +kernel
theorem dX6_image_38 : decode cX6_image 38 = .ok (.ireturn, 1) := by decide +kernel
theorem dX6_undo_0 : decode cX6_undo 0 = .ok (.aload_n 0, 1) := by decide +kernel
theorem dX6_undo_1 : decode cX6_undo 1 = .ok (.getfield 268, 3) := by decide +kernel
theorem dX6_undo_4 : decode cX6_undo 4 = .ok (.ifCond .ne 6, 3) := by decide +kernel
theorem dX6_undo_7 : decode cX6_undo 7 = .ok (.bipush (-3), 2) := by decide +kernel
theorem dX6_undo_9 : decode cX6_undo 9 = .ok (.ireturn, 1) := by decide +kernel
theorem dX6_undo_10 : decode cX6_undo 10 = .ok (.iconst 0, 1) := by decide +kernel
theorem dX6_undo_11 : decode cX6_undo 11 = .ok (.istore_n 1, 1) := by decide +kernel
theorem dX6_undo_12 : decode cX6_undo 12 = .ok (.iload_n 1, 1) := by decide +kernel
theorem dX6_undo_13 : decode cX6_undo 13 = .ok (.sipush 846, 3) := by decide +kernel
theorem dX6_undo_16 : decode cX6_undo 16 = .ok (.if_icmp .ge 21, 3) := by decide +kernel
theorem dX6_undo_19 : decode cX6_undo 19 = .ok (.aload_n 0, 1) := by decide +kernel
theorem dX6_undo_20 : decode cX6_undo 20 = .ok (.getfield 7, 3) := by decide +kernel
theorem dX6_undo_23 : decode cX6_undo 23 = .ok (.iload_n 1, 1) := by decide +kernel
theorem dX6_undo_24 : decode cX6_undo 24 = .ok (.aload_n 0, 1) := by decide +kernel
theorem dX6_undo_25 : decode cX6_undo 25 = .ok (.getfield 13, 3) := by decide +kernel
theorem dX6_undo_28 : decode cX6_undo 28 = .ok (.iload_n 1, 1) := by decide +kernel
theorem dX6_undo_29 : decode cX6_undo 29 = .ok (.iaload, 1) := by decide +kernel
theorem dX6_undo_30 : decode cX6_undo 30 = .ok (.iastore, 1) := by decide +kernel
theorem dX6_undo_31 : decode cX6_undo 31 = .ok (.iinc 1 1, 3) := by decide +kernel
theorem dX6_undo_34 : decode cX6_undo 34 = .ok (.goto (-22), 3) := by decide +kernel
theorem dX6_undo_37 : decode cX6_undo 37 = .ok (.aload_n 0, 1) := by decide +kernel
theorem dX6_undo_38 : decode cX6_undo 38 = .ok (.getfield 7, 3) := by decide +kernel
theorem dX6_undo_41 : decode cX6_undo 41 = .ok (.iconst 0, 1) := by decide +kernel
theorem dX6_undo_42 : decode cX6_undo 42 = .ok (.iaload, 1) := by decide +kernel
theorem dX6_undo_43 : decode cX6_undo 43 = .ok (.ireturn, 1) := by decide +kernel
theorem dX6_count_0 : decode cX6_count 0 = .ok (.iload_n 1, 1) := by decide +kernel
theorem dX6_count_1 : decode cX6_count 1 = .ok (.tableswitch 68 0 4 #[35, 42, 49, 56, 63], 35) := by decide +kernel
theorem dX6_count_36 : decode cX6_count 36 = .ok (.aload_n 0, 1) := by decide +kernel
theorem dX6_count_37 : decode cX6_count 37 = .ok (.getfield 7, 3) := by decide +kernel
theorem dX6_count_40 : decode cX6_count 40 = .ok (.iconst 0, 1) := by decide +kernel
theorem dX6_count_41 : decode cX6_count 41 = .ok (.iaload, 1) := by decide +kernel
theorem dX6_count_42 : decode cX6_count 42 = .ok (.ireturn, 1) := by decide +kernel
theorem dX6_count_43 : decode cX6_count 43 = .ok (.aload_n 0, 1) := by decide +kernel
theorem dX6_count_44 : decode cX6_count 44 = .ok (.getfield 7, 3) := by decide +kernel
theorem dX6_count_47 : decode cX6_count 47 = .ok (.iconst 1, 1) := by decide +kernel
theorem dX6_count_48 : decode cX6_count 48 = .ok (.iaload, 1) := by decide +kernel
theorem dX6_count_49 : decode cX6_count 49 = .ok (.ireturn, 1) := by decide +kernel
theorem dX6_count_50 : decode cX6_count 50 = .ok (.aload_n 0, 1) := by decide +kernel
theorem dX6_count_51 : decode cX6_count 51 = .ok (.getfield 7, 3) := by decide +kernel
theorem dX6_count_54 : decode cX6_count 54 = .ok (.iconst 2, 1) := by decide +kernel
theorem dX6_count_55 : decode cX6_count 55 = .ok (.iaload, 1) := by decide +kernel
theorem dX6_count_56 : decode cX6_count 56 = .ok (.ireturn, 1) := by decide +kernel
theorem dX6_count_57 : decode cX6_count 57 = .ok (.aload_n 0, 1) := by decide +kernel
theorem dX6_count_58 : decode cX6_count 58 = .ok (.getfield 7, 3) := by decide +kernel
theorem dX6_count_61 : decode cX6_count 61 = .ok (.iconst 3, 1) := by decide +kernel
theorem dX6_count_62 : decode cX6_count 62 = .ok (.iaload, 1) := by decide +kernel
theorem dX6_count_63 : decode cX6_count 63 = .ok (.ireturn, 1) := by decide +kernel
theorem dX6_count_64 : decode cX6_count 64 = .ok (.aload_n 0, 1) := by decide +kernel
theorem dX6_count_65 : decode cX6_count 65 = .ok (.getfield 232, 3) := by decide +kernel
theorem dX6_count_68 : decode cX6_count 68 = .ok (.ireturn, 1) := by decide +kernel
theorem dX6_count_69 : decode cX6_count 69 = .ok (.iconst (-1), 1) := by decide +kernel
theorem dX6_count_70 : decode cX6_count 70 = .ok (.ireturn, 1) := by decide +kernel
end CDC
