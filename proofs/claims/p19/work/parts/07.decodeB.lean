section CDC
theorem dX5_init_0 : decode cX5_init 0 = .ok (.aload_n 0, 1) := by decide +kernel
theorem dX5_init_1 : decode cX5_init 1 = .ok (.invokespecial 3, 3) := by decide +kernel
theorem dX5_init_4 : decode cX5_init 4 = .ok (.aload_n 0, 1) := by decide +kernel
theorem dX5_init_5 : decode cX5_init 5 = .ok (.new 9, 3) := by decide +kernel
theorem dX5_init_8 : decode cX5_init 8 = .ok (.dup, 1) := by decide +kernel
theorem dX5_init_9 : decode cX5_init 9 = .ok (.invokespecial 11, 3) := by decide +kernel
theorem dX5_init_12 : decode cX5_init 12 = .ok (.putfield 12, 3) := by decide +kernel
theorem dX5_init_15 : decode cX5_init 15 = .ok (.aload_n 0, 1) := by decide +kernel
theorem dX5_init_16 : decode cX5_init 16 = .ok (.new 9, 3) := by decide +kernel
theorem dX5_init_19 : decode cX5_init 19 = .ok (.dup, 1) := by decide +kernel
theorem dX5_init_20 : decode cX5_init 20 = .ok (.invokespecial 11, 3) := by decide +kernel
theorem dX5_init_23 : decode cX5_init 23 = .ok (.putfield 16, 3) := by decide +kernel
theorem dX5_init_26 : decode cX5_init 26 = .ok (.aload_n 0, 1) := by decide +kernel
theorem dX5_init_27 : decode cX5_init 27 = .ok (.new 19, 3) := by decide +kernel
theorem dX5_init_30 : decode cX5_init 30 = .ok (.dup, 1) := by decide +kernel
theorem dX5_init_31 : decode cX5_init 31 = .ok (.invokespecial 21, 3) := by decide +kernel
theorem dX5_init_34 : decode cX5_init 34 = .ok (.putfield 22, 3) := by decide +kernel
theorem dX5_init_37 : decode cX5_init 37 = .ok (.aload_n 0, 1) := by decide +kernel
theorem dX5_init_38 : decode cX5_init 38 = .ok (.iconst 5, 1) := by decide +kernel
theorem dX5_init_39 : decode cX5_init 39 = .ok (.anewarray 19, 3) := by decide +kernel
theorem dX5_init_42 : decode cX5_init 42 = .ok (.putfield 26, 3) := by decide +kernel
theorem dX5_init_45 : decode cX5_init 45 = .ok (.aload_n 0, 1) := by decide +kernel
theorem dX5_init_46 : decode cX5_init 46 = .ok (.new 30, 3) := by decide +kernel
theorem dX5_init_49 : decode cX5_init 49 = .ok (.dup, 1) := by decide +kernel
theorem dX5_init_50 : decode cX5_init 50 = .ok (.aload_n 0, 1) := by decide +kernel
theorem dX5_init_51 : decode cX5_init 51 = .ok (.getfield 12, 3) := by decide +kernel
theorem dX5_init_54 : decode cX5_init 54 = .ok (.getfield 32, 3) := by decide +kernel
theorem dX5_init_57 : decode cX5_init 57 = .ok (.invokespecial 36, 3) := by decide +kernel
theorem dX5_init_60 : decode cX5_init 60 = .ok (.putfield 39, 3) := by decide +kernel
theorem dX5_init_63 : decode cX5_init 63 = .ok (.aload_n 0, 1) := by decide +kernel
theorem dX5_init_64 : decode cX5_init 64 = .ok (.new 30, 3) := by decide +kernel
theorem dX5_init_67 : decode cX5_init 67 = .ok (.dup, 1) := by decide +kernel
theorem dX5_init_68 : decode cX5_init 68 = .ok (.new 43, 3) := by decide +kernel
theorem dX5_init_71 : decode cX5_init 71 = .ok (.dup, 1) := by decide +kernel
theorem dX5_init_72 : decode cX5_init 72 = .ok (.invokespecial 45, 3) := by decide +kernel
theorem dX5_init_75 : decode cX5_init 75 = .ok (.invokespecial 36, 3) := by decide +kernel
theorem dX5_init_78 : decode cX5_init 78 = .ok (.putfield 46, 3) := by decide +kernel
theorem dX5_init_81 : decode cX5_init 81 = .ok (.aload_n 0, 1) := by decide +kernel
theorem dX5_init_82 : decode cX5_init 82 = .ok (.sipush 201, 3) := by decide +kernel
theorem dX5_init_85 : decode cX5_init 85 = .ok (.newarray .int, 2) := by decide +kernel
theorem dX5_init_87 : decode cX5_init 87 = .ok (.putfield 49, 3) := by decide +kernel
theorem dX5_init_90 : decode cX5_init 90 = .ok (.aload_n 0, 1) := by decide +kernel
theorem dX5_init_91 : decode cX5_init 91 = .ok (.new 53, 3) := by decide +kernel
theorem dX5_init_94 : decode cX5_init 94 = .ok (.dup, 1) := by decide +kernel
theorem dX5_init_95 : decode cX5_init 95 = .ok (.invokespecial 55, 3) := by decide +kernel
theorem dX5_init_98 : decode cX5_init 98 = .ok (.putfield 56, 3) := by decide +kernel
theorem dX5_init_101 : decode cX5_init 101 = .ok (.iconst 0, 1) := by decide +kernel
theorem dX5_init_102 : decode cX5_init 102 = .ok (.istore_n 1, 1) := by decide +kernel
theorem dX5_init_103 : decode cX5_init 103 = .ok (.iload_n 1, 1) := by decide +kernel
theorem dX5_init_104 : decode cX5_init 104 = .ok (.aload_n 0, 1) := by decide +kernel
theorem dX5_init_105 : decode cX5_init 105 = .ok (.getfield 26, 3) := by decide +kernel
theorem dX5_init_108 : decode cX5_init 108 = .ok (.arraylength, 1) := by decide +kernel
theorem dX5_init_109 : decode cX5_init 109 = .ok (.if_icmp .ge 22, 3) := by decide +kernel
theorem dX5_init_112 : decode cX5_init 112 = .ok (.aload_n 0, 1) := by decide +kernel
theorem dX5_init_113 : decode cX5_init 113 = .ok (.getfield 26, 3) := by decide +kernel
theorem dX5_init_116 : decode cX5_init 116 = .ok (.iload_n 1, 1) := by decide +kernel
theorem dX5_init_117 : decode cX5_init 117 = .ok (.new 19, 3) := by decide +kernel
theorem dX5_init_120 : decode cX5_init 120 = .ok (.dup, 1) := by decide +kernel
theorem dX5_init_121 : decode cX5_init 121 = .ok (.invokespecial 21, 3) := by decide +kernel
theorem dX5_init_124 : decode cX5_init 124 = .ok (.aastore, 1) := by decide +kernel
theorem dX5_init_125 : decode cX5_init 125 = .ok (.iinc 1 1, 3) := by decide +kernel
theorem dX5_init_128 : decode cX5_init 128 = .ok (.goto (-25), 3) := by decide +kernel
theorem dX5_init_131 : decode cX5_init 131 = .ok (.return_, 1) := by decide +kernel
theorem dX5_feed_0 : decode cX5_feed 0 = .ok (.iload_n 1, 1) := by decide +kernel
theorem dX5_feed_1 : decode cX5_feed 1 = .ok (.ifCond .lt 9, 3) := by decide +kernel
theorem dX5_feed_4 : decode cX5_feed 4 = .ok (.iload_n 1, 1) := by decide +kernel
theorem dX5_feed_5 : decode cX5_feed 5 = .ok (.bipush 127, 2) := by decide +kernel
theorem dX5_feed_7 : decode cX5_feed 7 = .ok (.if_icmp .le 6, 3) := by decide +kernel
theorem dX5_feed_10 : decode cX5_feed 10 = .ok (.bipush (-2), 2) := by decide +kernel
theorem dX5_feed_12 : decode cX5_feed 12 = .ok (.ireturn, 1) := by decide +kernel
theorem dX5_feed_13 : decode cX5_feed 13 = .ok (.aload_n 0, 1) := by decide +kernel
theorem dX5_feed_14 : decode cX5_feed 14 = .ok (.getfield 12, 3) := by decide +kernel
theorem dX5_feed_17 : decode cX5_feed 17 = .ok (.getfield 60, 3) := by decide +kernel
theorem dX5_feed_20 : decode cX5_feed 20 = .ok (.ifCond .lt 21, 3) := by decide +kernel
theorem dX5_feed_23 : decode cX5_feed 23 = .ok (.aload_n 0, 1) := by decide +kernel
theorem dX5_feed_24 : decode cX5_feed 24 = .ok (.getfield 12, 3) := by decide +kernel
theorem dX5_feed_27 : decode cX5_feed 27 = .ok (.getfield 60, 3) := by decide +kernel
theorem dX5_feed_30 : decode cX5_feed 30 = .ok (.aload_n 0, 1) := by decide +kernel
theorem dX5_feed_31 : decode cX5_feed 31 = .ok (.getfield 12, 3) := by decide +kernel
theorem dX5_feed_34 : decode cX5_feed 34 = .ok (.getfield 64, 3) := by decide +kernel
theorem dX5_feed_37 : decode cX5_feed 37 = .ok (.arraylength, 1) := by decide +kernel
theorem dX5_feed_38 : decode cX5_feed 38 = .ok (.if_icmp .lt 6, 3) := by decide +kernel
theorem dX5_feed_41 : decode cX5_feed 41 = .ok (.bipush (-4), 2) := by decide +kernel
theorem dX5_feed_43 : decode cX5_feed 43 = .ok (.ireturn, 1) := by decide +kernel
theorem dX5_feed_44 : decode cX5_feed 44 = .ok (.aload_n 0, 1) := by decide +kernel
theorem dX5_feed_45 : decode cX5_feed 45 = .ok (.getfield 12, 3) := by decide +kernel
theorem dX5_feed_48 : decode cX5_feed 48 = .ok (.getfield 64, 3) := by decide +kernel
theorem dX5_feed_51 : decode cX5_feed 51 = .ok (.aload_n 0, 1) := by decide +kernel
theorem dX5_feed_52 : decode cX5_feed 52 = .ok (.getfield 12, 3) := by decide +kernel
theorem dX5_feed_55 : decode cX5_feed 55 = .ok (.getfield 60, 3) := by decide +kernel
theorem dX5_feed_58 : decode cX5_feed 58 = .ok (.iload_n 1, 1) := by decide +kernel
theorem dX5_feed_59 : decode cX5_feed 59 = .ok (.iastore, 1) := by decide +kernel
theorem dX5_feed_60 : decode cX5_feed 60 = .ok (.aload_n 0, 1) := by decide +kernel
theorem dX5_feed_61 : decode cX5_feed 61 = .ok (.getfield 12, 3) := by decide +kernel
theorem dX5_feed_64 : decode cX5_feed 64 = .ok (.dup, 1) := by decide +kernel
theorem dX5_feed_65 : decode cX5_feed 65 = .ok (.getfield 60, 3) := by decide +kernel
theorem dX5_feed_68 : decode cX5_feed 68 = .ok (.iconst 1, 1) := by decide +kernel
theorem dX5_feed_69 : decode cX5_feed 69 = .ok (.iadd, 1) := by decide +kernel
theorem dX5_feed_70 : decode cX5_feed 70 = .ok (.putfield 60, 3) := by decide +kernel
theorem dX5_feed_73 : decode cX5_feed 73 = .ok (.aload_n 0, 1) := by decide +kernel
theorem dX5_feed_74 : decode cX5_feed 74 = .ok (.getfield 12, 3) := by decide +kernel
theorem dX5_feed_77 : decode cX5_feed 77 = .ok (.getfield 60, 3) := by decide +kernel
theorem dX5_feed_80 : decode cX5_feed 80 = .ok (.ireturn, 1) := by decide +kernel
theorem dX5_town_0 : decode cX5_town 0 = .ok (.aload_n 0, 1) := by decide +kernel
theorem dX5_town_1 : decode cX5_town 1 = .ok (.getfield 12, 3) := by decide +kernel
theorem dX5_town_4 : decode cX5_town 4 = .ok (.getfield 67, 3) := by decide +kernel
theorem dX5_town_7 : decode cX5_town 7 = .ok (.istore_n 1, 1) := by decide +kernel
theorem dX5_town_8 : decode cX5_town 8 = .ok (.iload_n 1, 1) := by decide +kernel
theorem dX5_town_9 : decode cX5_town 9 = .ok (.ifCond .lt 21, 3) := by decide +kernel
theorem dX5_town_12 : decode cX5_town 12 = .ok (.iload_n 1, 1) := by decide +kernel
theorem dX5_town_13 : decode cX5_town 13 = .ok (.aload_n 0, 1) := by decide +kernel
theorem dX5_town_14 : decode cX5_town 14 = .ok (.getfield 26, 3) := by decide +kernel
theorem dX5_town_17 : decode cX5_town 17 = .ok (.arraylength, 1) := by decide +kernel
theorem dX5_town_18 : decode cX5_town 18 = .ok (.if_icmp .ge 12, 3) := by decide +kernel
theorem dX5_town_21 : decode cX5_town 21 = .ok (.aload_n 0, 1) := by decide +kernel
theorem dX5_town_22 : decode cX5_town 22 = .ok (.getfield 26, 3) := by decide +kernel
theorem dX5_town_25 : decode cX5_town 25 = .ok (.iload_n 1, 1) := by decide +kernel
theorem dX5_town_26 : decode cX5_town 26 = .ok (.aaload, 1) := by decide +kernel
theorem dX5_town_27 : decode cX5_town 27 = .ok (.ifnonnull 6, 3) := by decide +kernel
theorem dX5_town_30 : decode cX5_town 30 = .ok (.bipush (-4), 2) := by decide +kernel
theorem dX5_town_32 : decode cX5_town 32 = .ok (.ireturn, 1) := by decide +kernel
theorem dX5_town_33 : decode cX5_town 33 = .ok (.aload_n 0, 1) := by decide +kernel
theorem dX5_town_34 : decode cX5_town 34 = .ok (.getfield 26, 3) := by decide +kernel
theorem dX5_town_37 : decode cX5_town 37 = .ok (.iload_n 1, 1) := by decide +kernel
theorem dX5_town_38 : decode cX5_town 38 = .ok (.aaload, 1) := by decide +kernel
theorem dX5_town_39 : decode cX5_town 39 = .ok (.aload_n 0, 1) := by decide +kernel
theorem dX5_town_40 : decode cX5_town 40 = .ok (.getfield 12, 3) := by decide +kernel
theorem dX5_town_43 : decode cX5_town 43 = .ok (.getfield 64, 3) := by decide +kernel
theorem dX5_town_46 : decode cX5_town 46 = .ok (.aload_n 0, 1) := by decide +kernel
theorem dX5_town_47 : decode cX5_town 47 = .ok (.getfield 12, 3) := by decide +kernel
theorem dX5_town_50 : decode cX5_town 50 = .ok (.getfield 60, 3) := by decide +kernel
theorem dX5_town_53 : decode cX5_town 53 = .ok (.invokevirtual 69, 3) := by decide +kernel
theorem dX5_town_56 : decode cX5_town 56 = .ok (.istore_n 2, 1) := by decide +kernel
theorem dX5_town_57 : decode cX5_town 57 = .ok (.aload_n 0, 1) := by decide +kernel
theorem dX5_town_58 : decode cX5_town 58 = .ok (.getfield 12, 3) := by decide +kernel
theorem dX5_town_61 : decode cX5_town 61 = .ok (.iconst 0, 1) := by decide +kernel
theorem dX5_town_62 : decode cX5_town 62 = .ok (.putfield 60, 3) := by decide +kernel
theorem dX5_town_65 : decode cX5_town 65 = .ok (.iload_n 2, 1) := by decide +kernel
theorem dX5_town_66 : decode cX5_town 66 = .ok (.ifCond .lt 8, 3) := by decide +kernel
theorem dX5_town_69 : decode cX5_town 69 = .ok (.bipush (-10), 2) := by decide +kernel
theorem dX5_town_71 : decode cX5_town 71 = .ok (.iload_n 2, 1) := by decide +kernel
theorem dX5_town_72 : decode cX5_town 72 = .ok (.isub, 1) := by decide +kernel
theorem dX5_town_73 : decode cX5_town 73 = .ok (.ireturn, 1) := by decide +kernel
theorem dX5_town_74 : decode cX5_town 74 = .ok (.aload_n 0, 1) := by decide +kernel
theorem dX5_town_75 : decode cX5_town 75 = .ok (.getfield 12, 3) := by decide +kernel
theorem dX5_town_78 : decode cX5_town 78 = .ok (.dup, 1) := by decide +kernel
theorem dX5_town_79 : decode cX5_town 79 = .ok (.getfield 67, 3) := by decide +kernel
theorem dX5_town_82 : decode cX5_town 82 = .ok (.iconst 1, 1) := by decide +kernel
theorem dX5_town_83 : decode cX5_town 83 = .ok (.iadd, 1) := by decide +kernel
theorem dX5_town_84 : decode cX5_town 84 = .ok (.putfield 67, 3) := by decide +kernel
theorem dX5_town_87 : decode cX5_town 87 = .ok (.aload_n 0, 1) := by decide +kernel
theorem dX5_town_88 : decode cX5_town 88 = .ok (.invokevirtual 73, 3) := by decide +kernel
theorem dX5_town_91 : decode cX5_town 91 = .ok (.iload_n 1, 1) := by decide +kernel
theorem dX5_town_92 : decode cX5_town 92 = .ok (.ireturn, 1) := by decide +kernel
theorem dX5_told_0 : decode cX5_told 0 = .ok (.iload_n 1, 1) := by decide +kernel
theorem dX5_told_1 : decode cX5_told 1 = .ok (.tableswitch 57 0 2 #[27, 35, 46], 27) := by decide +kernel
theorem dX5_told_28 : decode cX5_told 28 = .ok (.aload_n 0, 1) := by decide +kernel
theorem dX5_told_29 : decode cX5_told 29 = .ok (.invokevirtual 76, 3) := by decide +kernel
theorem dX5_told_32 : decode cX5_told 32 = .ok (.getfield 80, 3) := by decide +kernel
theorem dX5_told_35 : decode cX5_told 35 = .ok (.ireturn, 1) := by decide +kernel
theorem dX5_told_36 : decode cX5_told 36 = .ok (.aload_n 0, 1) := by decide +kernel
theorem dX5_told_37 : decode cX5_told 37 = .ok (.getfield 12, 3) := by decide +kernel
theorem dX5_told_40 : decode cX5_told 40 = .ok (.getfield 32, 3) := by decide +kernel
theorem dX5_told_43 : decode cX5_told 43 = .ok (.getfield 83, 3) := by decide +kernel
theorem dX5_told_46 : decode cX5_told 46 = .ok (.ireturn, 1) := by decide +kernel
theorem dX5_told_47 : decode cX5_told 47 = .ok (.aload_n 0, 1) := by decide +kernel
theorem dX5_told_48 : decode cX5_told 48 = .ok (.getfield 12, 3) := by decide +kernel
theorem dX5_told_51 : decode cX5_told 51 = .ok (.getfield 32, 3) := by decide +kernel
theorem dX5_told_54 : decode cX5_told 54 = .ok (.getfield 86, 3) := by decide +kernel
theorem dX5_told_57 : decode cX5_told 57 = .ok (.ireturn, 1) := by decide +kernel
theorem dX5_told_58 : decode cX5_told 58 = .ok (.iconst (-1), 1) := by decide +kernel
theorem dX5_told_59 : decode cX5_told 59 = .ok (.ireturn, 1) := by decide +kernel
theorem dX5_person_0 : decode cX5_person 0 = .ok (.iload_n 1, 1) := by decide +kernel
theorem dX5_person_1 : decode cX5_person 1 = .ok (.ifCond .lt 9, 3) := by decide +kernel
theorem dX5_person_4 : decode cX5_person 4 = .ok (.iload_n 1, 1) := by decide +kernel
theorem dX5_person_5 : decode cX5_person 5 = .ok (.bipush 7, 2) := by decide +kernel
theorem dX5_person_7 : decode cX5_person 7 = .ok (.if_icmp .lt 5, 3) := by decide +kernel
theorem dX5_person_10 : decode cX5_person 10 = .ok (.iconst (-1), 1) := by decide +kernel
theorem dX5_person_11 : decode cX5_person 11 = .ok (.ireturn, 1) := by decide +kernel
theorem dX5_person_12 : decode cX5_person 12 = .ok (.iload_n 2, 1) := by decide +kernel
theorem dX5_person_13 : decode cX5_person 13 = .ok (.ifCond .lt 9, 3) := by decide +kernel
theorem dX5_person_16 : decode cX5_person 16 = .ok (.iload_n 2, 1) := by decide +kernel
theorem dX5_person_17 : decode cX5_person 17 = .ok (.bipush 9, 2) := by decide +kernel
theorem dX5_person_19 : decode cX5_person 19 = .ok (.if_icmp .le 6, 3) := by decide +kernel
theorem dX5_person_22 : decode cX5_person 22 = .ok (.bipush (-2), 2) := by decide +kernel
theorem dX5_person_24 : decode cX5_person 24 = .ok (.ireturn, 1) := by decide +kernel
theorem dX5_person_25 : decode cX5_person 25 = .ok (.aload_n 0, 1) := by decide +kernel
theorem dX5_person_26 : decode cX5_person 26 = .ok (.getfield 12, 3) := by decide +kernel
theorem dX5_person_29 : decode cX5_person 29 = .ok (.getfield 32, 3) := by decide +kernel
theorem dX5_person_32 : decode cX5_person 32 = .ok (.iload_n 1, 1) := by decide +kernel
theorem dX5_person_33 : decode cX5_person 33 = .ok (.iload_n 2, 1) := by decide +kernel
theorem dX5_person_34 : decode cX5_person 34 = .ok (.invokevirtual 89, 3) := by decide +kernel
theorem dX5_person_37 : decode cX5_person 37 = .ok (.istore_n 3, 1) := by decide +kernel
theorem dX5_person_38 : decode cX5_person 38 = .ok (.iload_n 3, 1) := by decide +kernel
theorem dX5_person_39 : decode cX5_person 39 = .ok (.ifCond .ge 6, 3) := by decide +kernel
theorem dX5_person_42 : decode cX5_person 42 = .ok (.bipush (-4), 2) := by decide +kernel
theorem dX5_person_44 : decode cX5_person 44 = .ok (.ireturn, 1) := by decide +kernel
theorem dX5_person_45 : decode cX5_person 45 = .ok (.aload_n 0, 1) := by decide +kernel
theorem dX5_person_46 : decode cX5_person 46 = .ok (.getfield 39, 3) := by decide +kernel
theorem dX5_person_49 : decode cX5_person 49 = .ok (.invokevirtual 93, 3) := by decide +kernel
theorem dX5_person_52 : decode cX5_person 52 = .ok (.iload_n 3, 1) := by decide +kernel
theorem dX5_person_53 : decode cX5_person 53 = .ok (.ireturn, 1) := by decide +kernel
theorem dX5_of_0 : decode cX5_of 0 = .ok (.aload_n 0, 1) := by decide +kernel
theorem dX5_of_1 : decode cX5_of 1 = .ok (.getfield 12, 3) := by decide +kernel
theorem dX5_of_4 : decode cX5_of 4 = .ok (.getfield 32, 3) := by decide +kernel
theorem dX5_of_7 : decode cX5_of 7 = .ok (.astore_n 3, 1) := by decide +kernel
theorem dX5_of_8 : decode cX5_of 8 = .ok (.aload_n 3, 1) := by decide +kernel
theorem dX5_of_9 : decode cX5_of 9 = .ok (.iload_n 1, 1) := by decide +kernel
theorem dX5_of_10 : decode cX5_of 10 = .ok (.invokevirtual 96, 3) := by decide +kernel
theorem dX5_of_13 : decode cX5_of 13 = .ok (.ifCond .ne 5, 3) := by decide +kernel
theorem dX5_of_16 : decode cX5_of 16 = .ok (.iconst (-1), 1) := by decide +kernel
theorem dX5_of_17 : decode cX5_of 17 = .ok (.ireturn, 1) := by decide +kernel
theorem dX5_of_18 : decode cX5_of 18 = .ok (.iload_n 2, 1) := by decide +kernel
theorem dX5_of_19 : decode cX5_of 19 = .ok (.tableswitch 72 0 3 #[29, 36, 43, 66], 29) := by decide +kernel
theorem dX5_of_48 : decode cX5_of 48 = .ok (.aload_n 3, 1) := by decide +kernel
theorem dX5_of_49 : decode cX5_of 49 = .ok (.getfield 100, 3) := by decide +kernel
theorem dX5_of_52 : decode cX5_of 52 = .ok (.iload_n 1, 1) := by decide +kernel
theorem dX5_of_53 : decode cX5_of 53 = .ok (.iaload, 1) := by decide +kernel
theorem dX5_of_54 : decode cX5_of 54 = .ok (.ireturn, 1) := by decide +kernel
theorem dX5_of_55 : decode cX5_of 55 = .ok (.aload_n 3, 1) := by decide +kernel
theorem dX5_of_56 : decode cX5_of 56 = .ok (.getfield 103, 3) := by decide +kernel
theorem dX5_of_59 : decode cX5_of 59 = .ok (.iload_n 1, 1) := by decide +kernel
theorem dX5_of_60 : decode cX5_of 60 = .ok (.iaload, 1) := by decide +kernel
theorem dX5_of_61 : decode cX5_of 61 = .ok (.ireturn, 1) := by decide +kernel
theorem dX5_of_62 : decode cX5_of 62 = .ok (.aload_n 3, 1) := by decide +kernel
theorem dX5_of_63 : decode cX5_of 63 = .ok (.getfield 100, 3) := by decide +kernel
theorem dX5_of_66 : decode cX5_of 66 = .ok (.iload_n 1, 1) := by decide +kernel
theorem dX5_of_67 : decode cX5_of 67 = .ok (.iaload, 1) := by decide +kernel
theorem dX5_of_68 : decode cX5_of 68 = .ok (.bipush 6, 2) := by decide +kernel
theorem dX5_of_70 : decode cX5_of 70 = .ok (.if_icmp .ne 12, 3) := by decide +kernel
theorem dX5_of_73 : decode cX5_of 73 = .ok (.aload_n 3, 1) := by decide +kernel
theorem dX5_of_74 : decode cX5_of 74 = .ok (.getfield 106, 3) := by decide +kernel
theorem dX5_of_77 : decode cX5_of 77 = .ok (.iload_n 1, 1) := by decide +kernel
theorem dX5_of_78 : decode cX5_of 78 = .ok (.iaload, 1) := by decide +kernel
theorem dX5_of_79 : decode cX5_of 79 = .ok (.goto 5, 3) := by decide +kernel
theorem dX5_of_82 : decode cX5_of 82 = .ok (.bipush (-5), 2) := by decide +kernel
theorem dX5_of_84 : decode cX5_of 84 = .ok (.ireturn, 1) := by decide +kernel
theorem dX5_of_85 : decode cX5_of 85 = .ok (.aload_n 3, 1) := by decide +kernel
theorem dX5_of_86 : decode cX5_of 86 = .ok (.iload_n 1, 1) := by decide +kernel
theorem dX5_of_87 : decode cX5_of 87 = .ok (.invokevirtual 109, 3) := by decide +kernel
theorem dX5_of_90 : decode cX5_of 90 = .ok (.ireturn, 1) := by decide +kernel
theorem dX5_of_91 : decode cX5_of 91 = .ok (.iconst (-1), 1) := by decide +kernel
theorem dX5_of_92 : decode cX5_of 92 = .ok (.ireturn, 1) := by decide +kernel
theorem dX5_row_0 : decode cX5_row 0 = .ok (.aload_n 0, 1) := by decide +kernel
theorem dX5_row_1 : decode cX5_row 1 = .ok (.getfield 12, 3) := by decide +kernel
theorem dX5_row_4 : decode cX5_row 4 = .ok (.getfield 32, 3) := by decide +kernel
theorem dX5_row_7 : decode cX5_row 7 = .ok (.astore_n 3, 1) := by decide +kernel
theorem dX5_row_8 : decode cX5_row 8 = .ok (.aload_n 3, 1) := by decide +kernel
theorem dX5_row_9 : decode cX5_row 9 = .ok (.iload_n 1, 1) := by decide +kernel
theorem dX5_row_10 : decode cX5_row 10 = .ok (.invokevirtual 96, 3) := by decide +kernel
theorem dX5_row_13 : decode cX5_row 13 = .ok (.ifCond .ne 5, 3) := by decide +kernel
theorem dX5_row_16 : decode cX5_row 16 = .ok (.iconst (-1), 1) := by decide +kernel
theorem dX5_row_17 : decode cX5_row 17 = .ok (.ireturn, 1) := by decide +kernel
theorem dX5_row_18 : decode cX5_row 18 = .ok (.iload_n 2, 1) := by decide +kernel
theorem dX5_row_19 : decode cX5_row 19 = .ok (.ifCond .lt 9, 3) := by decide +kernel
theorem dX5_row_22 : decode cX5_row 22 = .ok (.iload_n 2, 1) := by decide +kernel
theorem dX5_row_23 : decode cX5_row 23 = .ok (.bipush 8, 2) := by decide +kernel
theorem dX5_row_25 : decode cX5_row 25 = .ok (.if_icmp .lt 6, 3) := by decide +kernel
theorem dX5_row_28 : decode cX5_row 28 = .ok (.bipush (-2), 2) := by decide +kernel
theorem dX5_row_30 : decode cX5_row 30 = .ok (.ireturn, 1) := by decide +kernel
theorem dX5_row_31 : decode cX5_row 31 = .ok (.aload_n 3, 1) := by decide +kernel
theorem dX5_row_32 : decode cX5_row 32 = .ok (.getfield 100, 3) := by decide +kernel
theorem dX5_row_35 : decode cX5_row 35 = .ok (.iload_n 1, 1) := by decide +kernel
theorem dX5_row_36 : decode cX5_row 36 = .ok (.iaload, 1) := by decide +kernel
theorem dX5_row_37 : decode cX5_row 37 = .ok (.bipush 6, 2) := by decide +kernel
theorem dX5_row_39 : decode cX5_row 39 = .ok (.if_icmp .eq 6, 3) := by decide +kernel
theorem dX5_row_42 : decode cX5_row 42 = .ok (.bipush (-3), 2) := by decide +kernel
theorem dX5_row_44 : decode cX5_row 44 = .ok (.ireturn, 1) := by decide +kernel
theorem dX5_row_45 : decode cX5_row 45 = .ok (.aload_n 3, 1) := by decide +kernel
theorem dX5_row_46 : decode cX5_row 46 = .ok (.getfield 106, 3) := by decide +kernel
theorem dX5_row_49 : decode cX5_row 49 = .ok (.iload_n 1, 1) := by decide +kernel
theorem dX5_row_50 : decode cX5_row 50 = .ok (.iaload, 1) := by decide +kernel
theorem dX5_row_51 : decode cX5_row 51 = .ok (.istore 4, 2) := by decide +kernel
theorem dX5_row_53 : decode cX5_row 53 = .ok (.aload_n 3, 1) := by decide +kernel
theorem dX5_row_54 : decode cX5_row 54 = .ok (.getfield 106, 3) := by decide +kernel
theorem dX5_row_57 : decode cX5_row 57 = .ok (.iload_n 1, 1) := by decide +kernel
theorem dX5_row_58 : decode cX5_row 58 = .ok (.iload_n 2, 1) := by decide +kernel
theorem dX5_row_59 : decode cX5_row 59 = .ok (.iastore, 1) := by decide +kernel
theorem dX5_row_60 : decode cX5_row 60 = .ok (.aload_n 0, 1) := by decide +kernel
theorem dX5_row_61 : decode cX5_row 61 = .ok (.getfield 39, 3) := by decide +kernel
theorem dX5_row_64 : decode cX5_row 64 = .ok (.invokevirtual 93, 3) := by decide +kernel
theorem dX5_row_67 : decode cX5_row 67 = .ok (.iload 4, 2) := by decide +kernel
theorem dX5_row_69 : decode cX5_row 69 = .ok (.ireturn, 1) := by decide +kernel
theorem dX5_note_0 : decode cX5_note 0 = .ok (.aload_n 0, 1) := by decide +kernel
theorem dX5_note_1 : decode cX5_note 1 = .ok (.getfield 12, 3) := by decide +kernel
theorem dX5_note_4 : decode cX5_note 4 = .ok (.getfield 32, 3) := by decide +kernel
theorem dX5_note_7 : decode cX5_note 7 = .ok (.astore_n 3, 1) := by decide +kernel
theorem dX5_note_8 : decode cX5_note 8 = .ok (.aload_n 3, 1) := by decide +kernel
theorem dX5_note_9 : decode cX5_note 9 = .ok (.iload_n 1, 1) := by decide +kernel
theorem dX5_note_10 : decode cX5_note 10 = .ok (.invokevirtual 96, 3) := by decide +kernel
theorem dX5_note_13 : decode cX5_note 13 = .ok (.ifCond .ne 5, 3) := by decide +kernel
theorem dX5_note_16 : decode cX5_note 16 = .ok (.iconst (-1), 1) := by decide +kernel
theorem dX5_note_17 : decode cX5_note 17 = .ok (.ireturn, 1) := by decide +kernel
theorem dX5_note_18 : decode cX5_note 18 = .ok (.aload_n 3, 1) := by decide +kernel
theorem dX5_note_19 : decode cX5_note 19 = .ok (.iload_n 1, 1) := by decide +kernel
theorem dX5_note_20 : decode cX5_note 20 = .ok (.invokevirtual 109, 3) := by decide +kernel
theorem dX5_note_23 : decode cX5_note 23 = .ok (.istore 4, 2) := by decide +kernel
theorem dX5_note_25 : decode cX5_note 25 = .ok (.aload_n 3, 1) := by decide +kernel
theorem dX5_note_26 : decode cX5_note 26 = .ok (.iload_n 1, 1) := by decide +kernel
theorem dX5_note_27 : decode cX5_note 27 = .ok (.iload_n 2, 1) := by decide +kernel
theorem dX5_note_28 : decode cX5_note 28 = .ok (.invokevirtual 113, 3) := by decide +kernel
theorem dX5_note_31 : decode cX5_note 31 = .ok (.aload_n 0, 1) := by decide +kernel
theorem dX5_note_32 : decode cX5_note 32 = .ok (.getfield 39, 3) := by decide +kernel
theorem dX5_note_35 : decode cX5_note 35 = .ok (.invokevirtual 93, 3) := by decide +kernel
theorem dX5_note_38 : decode cX5_note 38 = .ok (.iload 4, 2) := by decide +kernel
theorem dX5_note_40 : decode cX5_note 40 = .ok (.ireturn, 1) := by decide +kernel
theorem dX5_yesterday_0 : decode cX5_yesterday 0 = .ok (.aload_n 0, 1) := by decide +kernel
theorem dX5_yesterday_1 : decode cX5_yesterday 1 = .ok (.getfield 12, 3) := by decide +kernel
theorem dX5_yesterday_4 : decode cX5_yesterday 4 = .ok (.getfield 32, 3) := by decide +kernel
theorem dX5_yesterday_7 : decode cX5_yesterday 7 = .ok (.iload_n 1, 1) := by decide +kernel
theorem dX5_yesterday_8 : decode cX5_yesterday 8 = .ok (.invokevirtual 117, 3) := by decide +kernel
theorem dX5_yesterday_11 : decode cX5_yesterday 11 = .ok (.ifCond .ne 6, 3) := by decide +kernel
theorem dX5_yesterday_14 : decode cX5_yesterday 14 = .ok (.bipush (-2), 2) := by decide +kernel
theorem dX5_yesterday_16 : decode cX5_yesterday 16 = .ok (.ireturn, 1) := by decide +kernel
theorem dX5_yesterday_17 : decode cX5_yesterday 17 = .ok (.aload_n 0, 1) := by decide +kernel
theorem dX5_yesterday_18 : decode cX5_yesterday 18 = .ok (.getfield 12, 3) := by decide +kernel
theorem dX5_yesterday_21 : decode cX5_yesterday 21 = .ok (.getfield 32, 3) := by decide +kernel
theorem dX5_yesterday_24 : decode cX5_yesterday 24 = .ok (.getfield 83, 3) := by decide +kernel
theorem dX5_yesterday_27 : decode cX5_yesterday 27 = .ok (.istore_n 2, 1) := by decide +kernel
theorem dX5_yesterday_28 : decode cX5_yesterday 28 = .ok (.aload_n 0, 1) := by decide +kernel
theorem dX5_yesterday_29 : decode cX5_yesterday 29 = .ok (.getfield 12, 3) := by decide +kernel
theorem dX5_yesterday_32 : decode cX5_yesterday 32 = .ok (.getfield 32, 3) := by decide +kernel
theorem dX5_yesterday_35 : decode cX5_yesterday 35 = .ok (.iload_n 1, 1) := by decide +kernel
theorem dX5_yesterday_36 : decode cX5_yesterday 36 = .ok (.putfield 83, 3) := by decide +kernel
theorem dX5_yesterday_39 : decode cX5_yesterday 39 = .ok (.aload_n 0, 1) := by decide +kernel
theorem dX5_yesterday_40 : decode cX5_yesterday 40 = .ok (.getfield 39, 3) := by decide +kernel
theorem dX5_yesterday_43 : decode cX5_yesterday 43 = .ok (.invokevirtual 93, 3) := by decide +kernel
theorem dX5_yesterday_46 : decode cX5_yesterday 46 = .ok (.iload_n 2, 1) := by decide +kernel
theorem dX5_yesterday_47 : decode cX5_yesterday 47 = .ok (.ireturn, 1) := by decide +kernel
theorem dX5_by_0 : decode cX5_by 0 = .ok (.aload_n 0, 1) := by decide +kernel
theorem dX5_by_1 : decode cX5_by 1 = .ok (.getfield 12, 3) := by decide +kernel
theorem dX5_by_4 : decode cX5_by 4 = .ok (.getfield 32, 3) := by decide +kernel
theorem dX5_by_7 : decode cX5_by 7 = .ok (.iload_n 2, 1) := by decide +kernel
theorem dX5_by_8 : decode cX5_by 8 = .ok (.invokevirtual 96, 3) := by decide +kernel
theorem dX5_by_11 : decode cX5_by 11 = .ok (.ifCond .eq 21, 3) := by decide +kernel
theorem dX5_by_14 : decode cX5_by 14 = .ok (.iload_n 3, 1) := by decide +kernel
theorem dX5_by_15 : decode cX5_by 15 = .ok (.invokestatic 120, 3) := by decide +kernel
theorem dX5_by_18 : decode cX5_by 18 = .ok (.ifCond .eq 14, 3) := by decide +kernel
theorem dX5_by_21 : decode cX5_by 21 = .ok (.iload 4, 2) := by decide +kernel
theorem dX5_by_23 : decode cX5_by 23 = .ok (.ifCond .lt 9, 3) := by decide +kernel
theorem dX5_by_26 : decode cX5_by 26 = .ok (.iload 4, 2) := by decide +kernel
theorem dX5_by_28 : decode cX5_by 28 = .ok (.iconst 2, 1) := by decide +kernel
theorem dX5_by_29 : decode cX5_by 29 = .ok (.if_icmp .le 7, 3) := by decide +kernel
theorem dX5_by_32 : decode cX5_by 32 = .ok (.sipush (-10001), 3) := by decide +kernel
theorem dX5_by_35 : decode cX5_by 35 = .ok (.ireturn, 1) := by decide +kernel
theorem dX5_by_36 : decode cX5_by 36 = .ok (.aload_n 0, 1) := by decide +kernel
theorem dX5_by_37 : decode cX5_by 37 = .ok (.getfield 12, 3) := by decide +kernel
theorem dX5_by_40 : decode cX5_by 40 = .ok (.getfield 32, 3) := by decide +kernel
theorem dX5_by_43 : decode cX5_by 43 = .ok (.iload_n 1, 1) := by decide +kernel
theorem dX5_by_44 : decode cX5_by 44 = .ok (.invokevirtual 117, 3) := by decide +kernel
theorem dX5_by_47 : decode cX5_by 47 = .ok (.ifCond .ne 7, 3) := by decide +kernel
theorem dX5_by_50 : decode cX5_by 50 = .ok (.sipush (-10002), 3) := by decide +kernel
theorem dX5_by_53 : decode cX5_by 53 = .ok (.ireturn, 1) := by decide +kernel
theorem dX5_by_54 : decode cX5_by 54 = .ok (.aload_n 0, 1) := by decide +kernel
theorem dX5_by_55 : decode cX5_by 55 = .ok (.getfield 39, 3) := by decide +kernel
theorem dX5_by_58 : decode cX5_by 58 = .ok (.aload_n 0, 1) := by decide +kernel
theorem dX5_by_59 : decode cX5_by 59 = .ok (.invokevirtual 76, 3) := by decide +kernel
theorem dX5_by_62 : decode cX5_by 62 = .ok (.invokevirtual 123, 3) := by decide +kernel
theorem dX5_by_65 : decode cX5_by 65 = .ok (.aload_n 0, 1) := by decide +kernel
theorem dX5_by_66 : decode cX5_by 66 = .ok (.getfield 39, 3) := by decide +kernel
theorem dX5_by_69 : decode cX5_by 69 = .ok (.iload_n 2, 1) := by decide +kernel
theorem dX5_by_70 : decode cX5_by 70 = .ok (.iload_n 1, 1) := by decide +kernel
theorem dX5_by_71 : decode cX5_by 71 = .ok (.invokevirtual 127, 3) := by decide +kernel
theorem dX5_by_74 : decode cX5_by 74 = .ok (.istore 5, 2) := by decide +kernel
theorem dX5_by_76 : decode cX5_by 76 = .ok (.iload 4, 2) := by decide +kernel
theorem dX5_by_78 : decode cX5_by 78 = .ok (.lookupswitch 52 #[(0, 26), (1, 38)], 26) := by decide +kernel
theorem dX5_by_104 : decode cX5_by 104 = .ok (.aload_n 0, 1) := by decide +kernel
theorem dX5_by_105 : decode cX5_by 105 = .ok (.getfield 39, 3) := by decide +kernel
theorem dX5_by_108 : decode cX5_by 108 = .ok (.iload_n 2, 1) := by decide +kernel
theorem dX5_by_109 : decode cX5_by 109 = .ok (.iload_n 3, 1) := by decide +kernel
theorem dX5_by_110 : decode cX5_by 110 = .ok (.iload 5, 2) := by decide +kernel
theorem dX5_by_112 : decode cX5_by 112 = .ok (.invokevirtual 130, 3) := by decide +kernel
theorem dX5_by_115 : decode cX5_by 115 = .ok (.ireturn, 1) := by decide +kernel
theorem dX5_by_116 : decode cX5_by 116 = .ok (.aload_n 0, 1) := by decide +kernel
theorem dX5_by_117 : decode cX5_by 117 = .ok (.getfield 39, 3) := by decide +kernel
theorem dX5_by_120 : decode cX5_by 120 = .ok (.iload_n 2, 1) := by decide +kernel
theorem dX5_by_121 : decode cX5_by 121 = .ok (.iload_n 1, 1) := by decide +kernel
theorem dX5_by_122 : decode cX5_by 122 = .ok (.invokevirtual 134, 3) := by decide +kernel
theorem dX5_by_125 : decode cX5_by 125 = .ok (.iload_n 3, 1) := by decide +kernel
theorem dX5_by_126 : decode cX5_by 126 = .ok (.invokestatic 137, 3) := by decide +kernel
theorem dX5_by_129 : decode cX5_by 129 = .ok (.ireturn, 1) := by decide +kernel
theorem dX5_by_130 : decode cX5_by 130 = .ok (.aload_n 0, 1) := by decide +kernel
theorem dX5_by_131 : decode cX5_by 131 = .ok (.getfield 39, 3) := by decide +kernel
theorem dX5_by_134 : decode cX5_by 134 = .ok (.iload_n 2, 1) := by decide +kernel
theorem dX5_by_135 : decode cX5_by 135 = .ok (.iload 5, 2) := by decide +kernel
theorem dX5_by_137 : decode cX5_by 137 = .ok (.invokevirtual 140, 3) := by decide +kernel
theorem dX5_by_140 : decode cX5_by 140 = .ok (.ireturn, 1) := by decide +kernel
theorem dX5_day_0 : decode cX5_day 0 = .ok (.iload_n 2, 1) := by decide +kernel
theorem dX5_day_1 : decode cX5_day 1 = .ok (.ifCond .lt 8, 3) := by decide +kernel
theorem dX5_day_4 : decode cX5_day 4 = .ok (.iload_n 2, 1) := by decide +kernel
theorem dX5_day_5 : decode cX5_day 5 = .ok (.iconst 2, 1) := by decide +kernel
theorem dX5_day_6 : decode cX5_day 6 = .ok (.if_icmp .le 7, 3) := by decide +kernel
theorem dX5_day_9 : decode cX5_day 9 = .ok (.sipush (-10001), 3) := by decide +kernel
theorem dX5_day_12 : decode cX5_day 12 = .ok (.ireturn, 1) := by decide +kernel
theorem dX5_day_13 : decode cX5_day 13 = .ok (.aload_n 0, 1) := by decide +kernel
theorem dX5_day_14 : decode cX5_day 14 = .ok (.getfield 12, 3) := by decide +kernel
theorem dX5_day_17 : decode cX5_day 17 = .ok (.getfield 32, 3) := by decide +kernel
theorem dX5_day_20 : decode cX5_day 20 = .ok (.iload_n 1, 1) := by decide +kernel
theorem dX5_day_21 : decode cX5_day 21 = .ok (.invokevirtual 117, 3) := by decide +kernel
theorem dX5_day_24 : decode cX5_day 24 = .ok (.ifCond .ne 7, 3) := by decide +kernel
theorem dX5_day_27 : decode cX5_day 27 = .ok (.sipush (-10002), 3) := by decide +kernel
theorem dX5_day_30 : decode cX5_day 30 = .ok (.ireturn, 1) := by decide +kernel
theorem dX5_day_31 : decode cX5_day 31 = .ok (.aload_n 0, 1) := by decide +kernel
theorem dX5_day_32 : decode cX5_day 32 = .ok (.getfield 39, 3) := by decide +kernel
theorem dX5_day_35 : decode cX5_day 35 = .ok (.aload_n 0, 1) := by decide +kernel
theorem dX5_day_36 : decode cX5_day 36 = .ok (.invokevirtual 76, 3) := by decide +kernel
theorem dX5_day_39 : decode cX5_day 39 = .ok (.invokevirtual 123, 3) := by decide +kernel
theorem dX5_day_42 : decode cX5_day 42 = .ok (.iload_n 2, 1) := by decide +kernel
theorem dX5_day_43 : decode cX5_day 43 = .ok (.lookupswitch 43 #[(0, 25), (1, 34)], 25) := by decide +kernel
theorem dX5_day_68 : decode cX5_day 68 = .ok (.aload_n 0, 1) := by decide +kernel
theorem dX5_day_69 : decode cX5_day 69 = .ok (.getfield 39, 3) := by decide +kernel
theorem dX5_day_72 : decode cX5_day 72 = .ok (.iload_n 1, 1) := by decide +kernel
theorem dX5_day_73 : decode cX5_day 73 = .ok (.invokevirtual 143, 3) := by decide +kernel
theorem dX5_day_76 : decode cX5_day 76 = .ok (.ireturn, 1) := by decide +kernel
theorem dX5_day_77 : decode cX5_day 77 = .ok (.aload_n 0, 1) := by decide +kernel
theorem dX5_day_78 : decode cX5_day 78 = .ok (.getfield 39, 3) := by decide +kernel
theorem dX5_day_81 : decode cX5_day 81 = .ok (.iload_n 1, 1) := by decide +kernel
theorem dX5_day_82 : decode cX5_day 82 = .ok (.invokevirtual 146, 3) := by decide +kernel
theorem dX5_day_85 : decode cX5_day 85 = .ok (.ireturn, 1) := by decide +kernel
theorem dX5_day_86 : decode cX5_day 86 = .ok (.aload_n 0, 1) := by decide +kernel
theorem dX5_day_87 : decode cX5_day 87 = .ok (.getfield 39, 3) := by decide +kernel
theorem dX5_day_90 : decode cX5_day 90 = .ok (.iload_n 1, 1) := by decide +kernel
theorem dX5_day_91 : decode cX5_day 91 = .ok (.invokevirtual 149, 3) := by decide +kernel
theorem dX5_day_94 : decode cX5_day 94 = .ok (.ireturn, 1) := by decide +kernel
theorem dX5_all_0 : decode cX5_all 0 = .ok (.iload_n 1, 1) := by decide +kernel
theorem dX5_all_1 : decode cX5_all 1 = .ok (.ifCond .lt 8, 3) := by decide +kernel
theorem dX5_all_4 : decode cX5_all 4 = .ok (.iload_n 1, 1) := by decide +kernel
theorem dX5_all_5 : decode cX5_all 5 = .ok (.iconst 4, 1) := by decide +kernel
theorem dX5_all_6 : decode cX5_all 6 = .ok (.if_icmp .le 7, 3) := by decide +kernel
theorem dX5_all_9 : decode cX5_all 9 = .ok (.sipush (-10001), 3) := by decide +kernel
theorem dX5_all_12 : decode cX5_all 12 = .ok (.ireturn, 1) := by decide +kernel
theorem dX5_all_13 : decode cX5_all 13 = .ok (.aload_n 0, 1) := by decide +kernel
theorem dX5_all_14 : decode cX5_all 14 = .ok (.invokevirtual 152, 3) := by decide +kernel
theorem dX5_all_17 : decode cX5_all 17 = .ok (.iload_n 1, 1) := by decide +kernel
theorem dX5_all_18 : decode cX5_all 18 = .ok (.tableswitch 62 0 3 #[30, 38, 46, 54], 30) := by decide +kernel
theorem dX5_all_48 : decode cX5_all 48 = .ok (.aload_n 0, 1) := by decide +kernel
theorem dX5_all_49 : decode cX5_all 49 = .ok (.getfield 39, 3) := by decide +kernel
theorem dX5_all_52 : decode cX5_all 52 = .ok (.getfield 155, 3) := by decide +kernel
theorem dX5_all_55 : decode cX5_all 55 = .ok (.ireturn, 1) := by decide +kernel
theorem dX5_all_56 : decode cX5_all 56 = .ok (.aload_n 0, 1) := by decide +kernel
theorem dX5_all_57 : decode cX5_all 57 = .ok (.getfield 39, 3) := by decide +kernel
theorem dX5_all_60 : decode cX5_all 60 = .ok (.getfield 158, 3) := by decide +kernel
theorem dX5_all_63 : decode cX5_all 63 = .ok (.ireturn, 1) := by decide +kernel
theorem dX5_all_64 : decode cX5_all 64 = .ok (.aload_n 0, 1) := by decide +kernel
theorem dX5_all_65 : decode cX5_all 65 = .ok (.getfield 39, 3) := by decide +kernel
theorem dX5_all_68 : decode cX5_all 68 = .ok (.getfield 161, 3) := by decide +kernel
theorem dX5_all_71 : decode cX5_all 71 = .ok (.ireturn, 1) := by decide +kernel
theorem dX5_all_72 : decode cX5_all 72 = .ok (.aload_n 0, 1) := by decide +kernel
theorem dX5_all_73 : decode cX5_all 73 = .ok (.getfield 39, 3) := by decide +kernel
theorem dX5_all_76 : decode cX5_all 76 = .ok (.getfield 164, 3) := by decide +kernel
theorem dX5_all_79 : decode cX5_all 79 = .ok (.ireturn, 1) := by decide +kernel
theorem dX5_all_80 : decode cX5_all 80 = .ok (.aload_n 0, 1) := by decide +kernel
theorem dX5_all_81 : decode cX5_all 81 = .ok (.getfield 39, 3) := by decide +kernel
theorem dX5_all_84 : decode cX5_all 84 = .ok (.getfield 155, 3) := by decide +kernel
theorem dX5_all_87 : decode cX5_all 87 = .ok (.ifCond .le 13, 3) := by decide +kernel
theorem dX5_all_90 : decode cX5_all 90 = .ok (.aload_n 0, 1) := by decide +kernel
theorem dX5_all_91 : decode cX5_all 91 = .ok (.getfield 39, 3) := by decide +kernel
theorem dX5_all_94 : decode cX5_all 94 = .ok (.getfield 167, 3) := by decide +kernel
theorem dX5_all_97 : decode cX5_all 97 = .ok (.goto 5, 3) := by decide +kernel
theorem dX5_all_100 : decode cX5_all 100 = .ok (.bipush (-5), 2) := by decide +kernel
theorem dX5_all_102 : decode cX5_all 102 = .ok (.ireturn, 1) := by decide +kernel
theorem dX5_once_0 : decode cX5_once 0 = .ok (.aload_n 0, 1) := by decide +kernel
theorem dX5_once_1 : decode cX5_once 1 = .ok (.getfield 12, 3) := by decide +kernel
theorem dX5_once_4 : decode cX5_once 4 = .ok (.getfield 32, 3) := by decide +kernel
theorem dX5_once_7 : decode cX5_once 7 = .ok (.iload_n 2, 1) := by decide +kernel
theorem dX5_once_8 : decode cX5_once 8 = .ok (.invokevirtual 96, 3) := by decide +kernel
theorem dX5_once_11 : decode cX5_once 11 = .ok (.ifCond .eq 18, 3) := by decide +kernel
theorem dX5_once_14 : decode cX5_once 14 = .ok (.iload_n 3, 1) := by decide +kernel
theorem dX5_once_15 : decode cX5_once 15 = .ok (.invokestatic 120, 3) := by decide +kernel
theorem dX5_once_18 : decode cX5_once 18 = .ok (.ifCond .eq 11, 3) := by decide +kernel
theorem dX5_once_21 : decode cX5_once 21 = .ok (.iload 4, 2) := by decide +kernel
theorem dX5_once_23 : decode cX5_once 23 = .ok (.invokestatic 170, 3) := by decide +kernel
theorem dX5_once_26 : decode cX5_once 26 = .ok (.ifCond .ne 5, 3) := by decide +kernel
theorem dX5_once_29 : decode cX5_once 29 = .ok (.iconst (-1), 1) := by decide +kernel
theorem dX5_once_30 : decode cX5_once 30 = .ok (.ireturn, 1) := by decide +kernel
theorem dX5_once_31 : decode cX5_once 31 = .ok (.aload_n 0, 1) := by decide +kernel
theorem dX5_once_32 : decode cX5_once 32 = .ok (.getfield 12, 3) := by decide +kernel
theorem dX5_once_35 : decode cX5_once 35 = .ok (.getfield 32, 3) := by decide +kernel
theorem dX5_once_38 : decode cX5_once 38 = .ok (.iload_n 1, 1) := by decide +kernel
theorem dX5_once_39 : decode cX5_once 39 = .ok (.invokevirtual 117, 3) := by decide +kernel
theorem dX5_once_42 : decode cX5_once 42 = .ok (.ifCond .ne 6, 3) := by decide +kernel
theorem dX5_once_45 : decode cX5_once 45 = .ok (.bipush (-2), 2) := by decide +kernel
theorem dX5_once_47 : decode cX5_once 47 = .ok (.ireturn, 1) := by decide +kernel
theorem dX5_once_48 : decode cX5_once 48 = .ok (.aload_n 0, 1) := by decide +kernel
theorem dX5_once_49 : decode cX5_once 49 = .ok (.getfield 39, 3) := by decide +kernel
theorem dX5_once_52 : decode cX5_once 52 = .ok (.aload_n 0, 1) := by decide +kernel
theorem dX5_once_53 : decode cX5_once 53 = .ok (.invokevirtual 76, 3) := by decide +kernel
theorem dX5_once_56 : decode cX5_once 56 = .ok (.invokevirtual 123, 3) := by decide +kernel
theorem dX5_once_59 : decode cX5_once 59 = .ok (.iload_n 1, 1) := by decide +kernel
theorem dX5_once_60 : decode cX5_once 60 = .ok (.iconst 1, 1) := by decide +kernel
theorem dX5_once_61 : decode cX5_once 61 = .ok (.iconst 3, 1) := by decide +kernel
theorem dX5_once_62 : decode cX5_once 62 = .ok (.iload_n 2, 1) := by decide +kernel
theorem dX5_once_63 : decode cX5_once 63 = .ok (.imul, 1) := by decide +kernel
theorem dX5_once_64 : decode cX5_once 64 = .ok (.iload_n 3, 1) := by decide +kernel
theorem dX5_once_65 : decode cX5_once 65 = .ok (.iadd, 1) := by decide +kernel
theorem dX5_once_66 : decode cX5_once 66 = .ok (.ishl, 1) := by decide +kernel
theorem dX5_once_67 : decode cX5_once 67 = .ok (.ixor, 1) := by decide +kernel
theorem dX5_once_68 : decode cX5_once 68 = .ok (.istore 5, 2) := by decide +kernel
theorem dX5_once_70 : decode cX5_once 70 = .ok (.iconst 0, 1) := by decide +kernel
theorem dX5_once_71 : decode cX5_once 71 = .ok (.istore 6, 2) := by decide +kernel
theorem dX5_once_73 : decode cX5_once 73 = .ok (.iload 6, 2) := by decide +kernel
theorem dX5_once_75 : decode cX5_once 75 = .ok (.bipush 60, 2) := by decide +kernel
theorem dX5_once_77 : decode cX5_once 77 = .ok (.if_icmp .gt 45, 3) := by decide +kernel
theorem dX5_once_80 : decode cX5_once 80 = .ok (.aload_n 0, 1) := by decide +kernel
theorem dX5_once_81 : decode cX5_once 81 = .ok (.getfield 39, 3) := by decide +kernel
theorem dX5_once_84 : decode cX5_once 84 = .ok (.iload 5, 2) := by decide +kernel
theorem dX5_once_86 : decode cX5_once 86 = .ok (.invokevirtual 173, 3) := by decide +kernel
theorem dX5_once_89 : decode cX5_once 89 = .ok (.ifCond .eq 16, 3) := by decide +kernel
theorem dX5_once_92 : decode cX5_once 92 = .ok (.iload 4, 2) := by decide +kernel
theorem dX5_once_94 : decode cX5_once 94 = .ok (.ifCond .ne 8, 3) := by decide +kernel
theorem dX5_once_97 : decode cX5_once 97 = .ok (.iload 6, 2) := by decide +kernel
theorem dX5_once_99 : decode cX5_once 99 = .ok (.goto 5, 3) := by decide +kernel
theorem dX5_once_102 : decode cX5_once 102 = .ok (.iload 5, 2) := by decide +kernel
theorem dX5_once_104 : decode cX5_once 104 = .ok (.ireturn, 1) := by decide +kernel
theorem dX5_once_105 : decode cX5_once 105 = .ok (.aload_n 0, 1) := by decide +kernel
theorem dX5_once_106 : decode cX5_once 106 = .ok (.getfield 39, 3) := by decide +kernel
theorem dX5_once_109 : decode cX5_once 109 = .ok (.iload 5, 2) := by decide +kernel
theorem dX5_once_111 : decode cX5_once 111 = .ok (.invokevirtual 146, 3) := by decide +kernel
theorem dX5_once_114 : decode cX5_once 114 = .ok (.istore 5, 2) := by decide +kernel
theorem dX5_once_116 : decode cX5_once 116 = .ok (.iinc 6 1, 3) := by decide +kernel
theorem dX5_once_119 : decode cX5_once 119 = .ok (.goto (-46), 3) := by decide +kernel
theorem dX5_once_122 : decode cX5_once 122 = .ok (.bipush (-5), 2) := by decide +kernel
theorem dX5_once_124 : decode cX5_once 124 = .ok (.ireturn, 1) := by decide +kernel
theorem dX5_again_0 : decode cX5_again 0 = .ok (.iload_n 2, 1) := by decide +kernel
theorem dX5_again_1 : decode cX5_again 1 = .ok (.invokestatic 170, 3) := by decide +kernel
theorem dX5_again_4 : decode cX5_again 4 = .ok (.ifCond .ne 5, 3) := by decide +kernel
theorem dX5_again_7 : decode cX5_again 7 = .ok (.iconst (-1), 1) := by decide +kernel
theorem dX5_again_8 : decode cX5_again 8 = .ok (.ireturn, 1) := by decide +kernel
theorem dX5_again_9 : decode cX5_again 9 = .ok (.aload_n 0, 1) := by decide +kernel
theorem dX5_again_10 : decode cX5_again 10 = .ok (.getfield 12, 3) := by decide +kernel
theorem dX5_again_13 : decode cX5_again 13 = .ok (.getfield 32, 3) := by decide +kernel
theorem dX5_again_16 : decode cX5_again 16 = .ok (.iload_n 1, 1) := by decide +kernel
theorem dX5_again_17 : decode cX5_again 17 = .ok (.invokevirtual 117, 3) := by decide +kernel
theorem dX5_again_20 : decode cX5_again 20 = .ok (.ifCond .ne 6, 3) := by decide +kernel
theorem dX5_again_23 : decode cX5_again 23 = .ok (.bipush (-2), 2) := by decide +kernel
theorem dX5_again_25 : decode cX5_again 25 = .ok (.ireturn, 1) := by decide +kernel
theorem dX5_again_26 : decode cX5_again 26 = .ok (.aload_n 0, 1) := by decide +kernel
theorem dX5_again_27 : decode cX5_again 27 = .ok (.getfield 39, 3) := by decide +kernel
theorem dX5_again_30 : decode cX5_again 30 = .ok (.aload_n 0, 1) := by decide +kernel
theorem dX5_again_31 : decode cX5_again 31 = .ok (.invokevirtual 76, 3) := by decide +kernel
theorem dX5_again_34 : decode cX5_again 34 = .ok (.invokevirtual 123, 3) := by decide +kernel
theorem dX5_again_37 : decode cX5_again 37 = .ok (.aload_n 0, 1) := by decide +kernel
theorem dX5_again_38 : decode cX5_again 38 = .ok (.getfield 49, 3) := by decide +kernel
theorem dX5_again_41 : decode cX5_again 41 = .ok (.iconst 0, 1) := by decide +kernel
theorem dX5_again_42 : decode cX5_again 42 = .ok (.iload_n 1, 1) := by decide +kernel
theorem dX5_again_43 : decode cX5_again 43 = .ok (.iastore, 1) := by decide +kernel
theorem dX5_again_44 : decode cX5_again 44 = .ok (.iconst 1, 1) := by decide +kernel
theorem dX5_again_45 : decode cX5_again 45 = .ok (.istore_n 3, 1) := by decide +kernel
theorem dX5_again_46 : decode cX5_again 46 = .ok (.iload_n 3, 1) := by decide +kernel
theorem dX5_again_47 : decode cX5_again 47 = .ok (.aload_n 0, 1) := by decide +kernel
theorem dX5_again_48 : decode cX5_again 48 = .ok (.getfield 49, 3) := by decide +kernel
theorem dX5_again_51 : decode cX5_again 51 = .ok (.arraylength, 1) := by decide +kernel
theorem dX5_again_52 : decode cX5_again 52 = .ok (.if_icmp .ge 61, 3) := by decide +kernel
theorem dX5_again_55 : decode cX5_again 55 = .ok (.aload_n 0, 1) := by decide +kernel
theorem dX5_again_56 : decode cX5_again 56 = .ok (.getfield 49, 3) := by decide +kernel
theorem dX5_again_59 : decode cX5_again 59 = .ok (.iload_n 3, 1) := by decide +kernel
theorem dX5_again_60 : decode cX5_again 60 = .ok (.aload_n 0, 1) := by decide +kernel
theorem dX5_again_61 : decode cX5_again 61 = .ok (.getfield 39, 3) := by decide +kernel
theorem dX5_again_64 : decode cX5_again 64 = .ok (.aload_n 0, 1) := by decide +kernel
theorem dX5_again_65 : decode cX5_again 65 = .ok (.getfield 49, 3) := by decide +kernel
theorem dX5_again_68 : decode cX5_again 68 = .ok (.iload_n 3, 1) := by decide +kernel
theorem dX5_again_69 : decode cX5_again 69 = .ok (.iconst 1, 1) := by decide +kernel
theorem dX5_again_70 : decode cX5_again 70 = .ok (.isub, 1) := by decide +kernel
theorem dX5_again_71 : decode cX5_again 71 = .ok (.iaload, 1) := by decide +kernel
theorem dX5_again_72 : decode cX5_again 72 = .ok (.invokevirtual 146, 3) := by decide +kernel
theorem dX5_again_75 : decode cX5_again 75 = .ok (.iastore, 1) := by decide +kernel
theorem dX5_again_76 : decode cX5_again 76 = .ok (.aload_n 0, 1) := by decide +kernel
theorem dX5_again_77 : decode cX5_again 77 = .ok (.aload_n 0, 1) := by decide +kernel
theorem dX5_again_78 : decode cX5_again 78 = .ok (.getfield 49, 3) := by decide +kernel
theorem dX5_again_81 : decode cX5_again 81 = .ok (.iload_n 3, 1) := by decide +kernel
theorem dX5_again_82 : decode cX5_again 82 = .ok (.iaload, 1) := by decide +kernel
theorem dX5_again_83 : decode cX5_again 83 = .ok (.iload_n 3, 1) := by decide +kernel
theorem dX5_again_84 : decode cX5_again 84 = .ok (.invokevirtual 176, 3) := by decide +kernel
theorem dX5_again_87 : decode cX5_again 87 = .ok (.istore 4, 2) := by decide +kernel
theorem dX5_again_89 : decode cX5_again 89 = .ok (.iload 4, 2) := by decide +kernel
theorem dX5_again_91 : decode cX5_again 91 = .ok (.ifCond .lt 16, 3) := by decide +kernel
theorem dX5_again_94 : decode cX5_again 94 = .ok (.iload_n 2, 1) := by decide +kernel
theorem dX5_again_95 : decode cX5_again 95 = .ok (.ifCond .ne 7, 3) := by decide +kernel
theorem dX5_again_98 : decode cX5_again 98 = .ok (.iload_n 3, 1) := by decide +kernel
theorem dX5_again_99 : decode cX5_again 99 = .ok (.goto 7, 3) := by decide +kernel
theorem dX5_again_102 : decode cX5_again 102 = .ok (.iload_n 3, 1) := by decide +kernel
theorem dX5_again_103 : decode cX5_again 103 = .ok (.iload 4, 2) := by decide +kernel
theorem dX5_again_105 : decode cX5_again 105 = .ok (.isub, 1) := by decide +kernel
theorem dX5_again_106 : decode cX5_again 106 = .ok (.ireturn, 1) := by decide +kernel
theorem dX5_again_107 : decode cX5_again 107 = .ok (.iinc 3 1, 3) := by decide +kernel
theorem dX5_again_110 : decode cX5_again 110 = .ok (.goto (-64), 3) := by decide +kernel
theorem dX5_again_113 : decode cX5_again 113 = .ok (.bipush (-5), 2) := by decide +kernel
theorem dX5_again_115 : decode cX5_again 115 = .ok (.ireturn, 1) := by decide +kernel
theorem dX5_morning_0 : decode cX5_morning 0 = .ok (.aload_n 0, 1) := by decide +kernel
theorem dX5_morning_1 : decode cX5_morning 1 = .ok (.invokevirtual 152, 3) := by decide +kernel
theorem dX5_morning_4 : decode cX5_morning 4 = .ok (.aload_n 0, 1) := by decide +kernel
theorem dX5_morning_5 : decode cX5_morning 5 = .ok (.getfield 39, 3) := by decide +kernel
theorem dX5_morning_8 : decode cX5_morning 8 = .ok (.invokevirtual 179, 3) := by decide +kernel
theorem dX5_morning_11 : decode cX5_morning 11 = .ok (.istore_n 1, 1) := by decide +kernel
theorem dX5_morning_12 : decode cX5_morning 12 = .ok (.aload_n 0, 1) := by decide +kernel
theorem dX5_morning_13 : decode cX5_morning 13 = .ok (.getfield 12, 3) := by decide +kernel
theorem dX5_morning_16 : decode cX5_morning 16 = .ok (.getfield 32, 3) := by decide +kernel
theorem dX5_morning_19 : decode cX5_morning 19 = .ok (.iload_n 1, 1) := by decide +kernel
theorem dX5_morning_20 : decode cX5_morning 20 = .ok (.aload_n 0, 1) := by decide +kernel
theorem dX5_morning_21 : decode cX5_morning 21 = .ok (.invokevirtual 76, 3) := by decide +kernel
theorem dX5_morning_24 : decode cX5_morning 24 = .ok (.getfield 80, 3) := by decide +kernel
theorem dX5_morning_27 : decode cX5_morning 27 = .ok (.invokevirtual 183, 3) := by decide +kernel
theorem dX5_morning_30 : decode cX5_morning 30 = .ok (.aload_n 0, 1) := by decide +kernel
theorem dX5_morning_31 : decode cX5_morning 31 = .ok (.getfield 39, 3) := by decide +kernel
theorem dX5_morning_34 : decode cX5_morning 34 = .ok (.invokevirtual 93, 3) := by decide +kernel
theorem dX5_morning_37 : decode cX5_morning 37 = .ok (.iload_n 1, 1) := by decide +kernel
theorem dX5_morning_38 : decode cX5_morning 38 = .ok (.ireturn, 1) := by decide +kernel
theorem dX5_year_0 : decode cX5_year 0 = .ok (.iload_n 2, 1) := by decide +kernel
theorem dX5_year_1 : decode cX5_year 1 = .ok (.invokestatic 170, 3) := by decide +kernel
theorem dX5_year_4 : decode cX5_year 4 = .ok (.ifCond .ne 7, 3) := by decide +kernel
theorem dX5_year_7 : decode cX5_year 7 = .ok (.sipush (-10001), 3) := by decide +kernel
theorem dX5_year_10 : decode cX5_year 10 = .ok (.ireturn, 1) := by decide +kernel
theorem dX5_year_11 : decode cX5_year 11 = .ok (.iload_n 1, 1) := by decide +kernel
theorem dX5_year_12 : decode cX5_year 12 = .ok (.iconst 1, 1) := by decide +kernel
theorem dX5_year_13 : decode cX5_year 13 = .ok (.if_icmp .lt 9, 3) := by decide +kernel
theorem dX5_year_16 : decode cX5_year 16 = .ok (.iload_n 1, 1) := by decide +kernel
theorem dX5_year_17 : decode cX5_year 17 = .ok (.bipush 30, 2) := by decide +kernel
theorem dX5_year_19 : decode cX5_year 19 = .ok (.if_icmp .le 7, 3) := by decide +kernel
theorem dX5_year_22 : decode cX5_year 22 = .ok (.sipush (-10002), 3) := by decide +kernel
theorem dX5_year_25 : decode cX5_year 25 = .ok (.ireturn, 1) := by decide +kernel
theorem dX5_year_26 : decode cX5_year 26 = .ok (.iconst 0, 1) := by decide +kernel
theorem dX5_year_27 : decode cX5_year 27 = .ok (.istore_n 3, 1) := by decide +kernel
theorem dX5_year_28 : decode cX5_year 28 = .ok (.iconst 0, 1) := by decide +kernel
theorem dX5_year_29 : decode cX5_year 29 = .ok (.istore 4, 2) := by decide +kernel
theorem dX5_year_31 : decode cX5_year 31 = .ok (.aload_n 0, 1) := by decide +kernel
theorem dX5_year_32 : decode cX5_year 32 = .ok (.getfield 46, 3) := by decide +kernel
theorem dX5_year_35 : decode cX5_year 35 = .ok (.getfield 187, 3) := by decide +kernel
theorem dX5_year_38 : decode cX5_year 38 = .ok (.aload_n 0, 1) := by decide +kernel
theorem dX5_year_39 : decode cX5_year 39 = .ok (.getfield 12, 3) := by decide +kernel
theorem dX5_year_42 : decode cX5_year 42 = .ok (.getfield 32, 3) := by decide +kernel
theorem dX5_year_45 : decode cX5_year 45 = .ok (.invokevirtual 188, 3) := by decide +kernel
theorem dX5_year_48 : decode cX5_year 48 = .ok (.iconst 0, 1) := by decide +kernel
theorem dX5_year_49 : decode cX5_year 49 = .ok (.istore 5, 2) := by decide +kernel
theorem dX5_year_51 : decode cX5_year 51 = .ok (.iload 5, 2) := by decide +kernel
theorem dX5_year_53 : decode cX5_year 53 = .ok (.iload_n 1, 1) := by decide +kernel
theorem dX5_year_54 : decode cX5_year 54 = .ok (.if_icmp .ge 73, 3) := by decide +kernel
theorem dX5_year_57 : decode cX5_year 57 = .ok (.aload_n 0, 1) := by decide +kernel
theorem dX5_year_58 : decode cX5_year 58 = .ok (.invokevirtual 191, 3) := by decide +kernel
theorem dX5_year_61 : decode cX5_year 61 = .ok (.aload_n 0, 1) := by decide +kernel
theorem dX5_year_62 : decode cX5_year 62 = .ok (.getfield 46, 3) := by decide +kernel
theorem dX5_year_65 : decode cX5_year 65 = .ok (.invokevirtual 179, 3) := by decide +kernel
theorem dX5_year_68 : decode cX5_year 68 = .ok (.istore 6, 2) := by decide +kernel
theorem dX5_year_70 : decode cX5_year 70 = .ok (.iload_n 3, 1) := by decide +kernel
theorem dX5_year_71 : decode cX5_year 71 = .ok (.aload_n 0, 1) := by decide +kernel
theorem dX5_year_72 : decode cX5_year 72 = .ok (.getfield 46, 3) := by decide +kernel
theorem dX5_year_75 : decode cX5_year 75 = .ok (.iload 6, 2) := by decide +kernel
theorem dX5_year_77 : decode cX5_year 77 = .ok (.invokevirtual 149, 3) := by decide +kernel
theorem dX5_year_80 : decode cX5_year 80 = .ok (.iadd, 1) := by decide +kernel
theorem dX5_year_81 : decode cX5_year 81 = .ok (.istore_n 3, 1) := by decide +kernel
theorem dX5_year_82 : decode cX5_year 82 = .ok (.iload 4, 2) := by decide +kernel
theorem dX5_year_84 : decode cX5_year 84 = .ok (.aload_n 0, 1) := by decide +kernel
theorem dX5_year_85 : decode cX5_year 85 = .ok (.getfield 46, 3) := by decide +kernel
theorem dX5_year_88 : decode cX5_year 88 = .ok (.getfield 155, 3) := by decide +kernel
theorem dX5_year_91 : decode cX5_year 91 = .ok (.ifCond .ne 7, 3) := by decide +kernel
theorem dX5_year_94 : decode cX5_year 94 = .ok (.iconst 1, 1) := by decide +kernel
theorem dX5_year_95 : decode cX5_year 95 = .ok (.goto 4, 3) := by decide +kernel
theorem dX5_year_98 : decode cX5_year 98 = .ok (.iconst 0, 1) := by decide +kernel
theorem dX5_year_99 : decode cX5_year 99 = .ok (.iadd, 1) := by decide +kernel
theorem dX5_year_100 : decode cX5_year 100 = .ok (.istore 4, 2) := by decide +kernel
theorem dX5_year_102 : decode cX5_year 102 = .ok (.aload_n 0, 1) := by decide +kernel
theorem dX5_year_103 : decode cX5_year 103 = .ok (.getfield 46, 3) := by decide +kernel
theorem dX5_year_106 : decode cX5_year 106 = .ok (.getfield 187, 3) := by decide +kernel
theorem dX5_year_109 : decode cX5_year 109 = .ok (.iload 6, 2) := by decide +kernel
theorem dX5_year_111 : decode cX5_year 111 = .ok (.aload_n 0, 1) := by decide +kernel
theorem dX5_year_112 : decode cX5_year 112 = .ok (.invokevirtual 76, 3) := by decide +kernel
theorem dX5_year_115 : decode cX5_year 115 = .ok (.getfield 80, 3) := by decide +kernel
theorem dX5_year_118 : decode cX5_year 118 = .ok (.invokevirtual 183, 3) := by decide +kernel
theorem dX5_year_121 : decode cX5_year 121 = .ok (.iinc 5 1, 3) := by decide +kernel
theorem dX5_year_124 : decode cX5_year 124 = .ok (.goto (-73), 3) := by decide +kernel
theorem dX5_year_127 : decode cX5_year 127 = .ok (.iload_n 2, 1) := by decide +kernel
theorem dX5_year_128 : decode cX5_year 128 = .ok (.ifCond .ne 7, 3) := by decide +kernel
theorem dX5_year_131 : decode cX5_year 131 = .ok (.iload_n 3, 1) := by decide +kernel
theorem dX5_year_132 : decode cX5_year 132 = .ok (.goto 5, 3) := by decide +kernel
theorem dX5_year_135 : decode cX5_year 135 = .ok (.iload 4, 2) := by decide +kernel
theorem dX5_year_137 : decode cX5_year 137 = .ok (.ireturn, 1) := by decide +kernel
theorem dX5_bet_0 : decode cX5_bet 0 = .ok (.aload_n 0, 1) := by decide +kernel
theorem dX5_bet_1 : decode cX5_bet 1 = .ok (.getfield 12, 3) := by decide +kernel
theorem dX5_bet_4 : decode cX5_bet 4 = .ok (.getfield 32, 3) := by decide +kernel
theorem dX5_bet_7 : decode cX5_bet 7 = .ok (.iload_n 1, 1) := by decide +kernel
theorem dX5_bet_8 : decode cX5_bet 8 = .ok (.invokevirtual 96, 3) := by decide +kernel
theorem dX5_bet_11 : decode cX5_bet 11 = .ok (.ifCond .eq 17, 3) := by decide +kernel
theorem dX5_bet_14 : decode cX5_bet 14 = .ok (.iload_n 2, 1) := by decide +kernel
theorem dX5_bet_15 : decode cX5_bet 15 = .ok (.invokestatic 120, 3) := by decide +kernel
theorem dX5_bet_18 : decode cX5_bet 18 = .ok (.ifCond .eq 10, 3) := by decide +kernel
theorem dX5_bet_21 : decode cX5_bet 21 = .ok (.iload_n 3, 1) := by decide +kernel
theorem dX5_bet_22 : decode cX5_bet 22 = .ok (.invokestatic 170, 3) := by decide +kernel
theorem dX5_bet_25 : decode cX5_bet 25 = .ok (.ifCond .ne 5, 3) := by decide +kernel
theorem dX5_bet_28 : decode cX5_bet 28 = .ok (.iconst (-1), 1) := by decide +kernel
theorem dX5_bet_29 : decode cX5_bet 29 = .ok (.ireturn, 1) := by decide +kernel
theorem dX5_bet_30 : decode cX5_bet 30 = .ok (.aload_n 0, 1) := by decide +kernel
theorem dX5_bet_31 : decode cX5_bet 31 = .ok (.invokevirtual 152, 3) := by decide +kernel
theorem dX5_bet_34 : decode cX5_bet 34 = .ok (.aload_n 0, 1) := by decide +kernel
theorem dX5_bet_35 : decode cX5_bet 35 = .ok (.getfield 39, 3) := by decide +kernel
theorem dX5_bet_38 : decode cX5_bet 38 = .ok (.iconst 3, 1) := by decide +kernel
theorem dX5_bet_39 : decode cX5_bet 39 = .ok (.iload_n 1, 1) := by decide +kernel
theorem dX5_bet_40 : decode cX5_bet 40 = .ok (.imul, 1) := by decide +kernel
theorem dX5_bet_41 : decode cX5_bet 41 = .ok (.iload_n 2, 1) := by decide +kernel
theorem dX5_bet_42 : decode cX5_bet 42 = .ok (.iadd, 1) := by decide +kernel
theorem dX5_bet_43 : decode cX5_bet 43 = .ok (.invokevirtual 194, 3) := by decide +kernel
theorem dX5_bet_46 : decode cX5_bet 46 = .ok (.istore 4, 2) := by decide +kernel
theorem dX5_bet_48 : decode cX5_bet 48 = .ok (.iload 4, 2) := by decide +kernel
theorem dX5_bet_50 : decode cX5_bet 50 = .ok (.ifCond .ne 5, 3) := by decide +kernel
theorem dX5_bet_53 : decode cX5_bet 53 = .ok (.iload_n 3, 1) := by decide +kernel
theorem dX5_bet_54 : decode cX5_bet 54 = .ok (.ireturn, 1) := by decide +kernel
theorem dX5_bet_55 : decode cX5_bet 55 = .ok (.iload 4, 2) := by decide +kernel
theorem dX5_bet_57 : decode cX5_bet 57 = .ok (.aload_n 0, 1) := by decide +kernel
theorem dX5_bet_58 : decode cX5_bet 58 = .ok (.getfield 39, 3) := by decide +kernel
theorem dX5_bet_61 : decode cX5_bet 61 = .ok (.getfield 155, 3) := by decide +kernel
theorem dX5_bet_64 : decode cX5_bet 64 = .ok (.invokestatic 197, 3) := by decide +kernel
theorem dX5_bet_67 : decode cX5_bet 67 = .ok (.istore 5, 2) := by decide +kernel
theorem dX5_bet_69 : decode cX5_bet 69 = .ok (.iload_n 3, 1) := by decide +kernel
theorem dX5_bet_70 : decode cX5_bet 70 = .ok (.ifCond .ne 8, 3) := by decide +kernel
theorem dX5_bet_73 : decode cX5_bet 73 = .ok (.iload 4, 2) := by decide +kernel
theorem dX5_bet_75 : decode cX5_bet 75 = .ok (.goto 10, 3) := by decide +kernel
theorem dX5_bet_78 : decode cX5_bet 78 = .ok (.aload_n 0, 1) := by decide +kernel
theorem dX5_bet_79 : decode cX5_bet 79 = .ok (.getfield 39, 3) := by decide +kernel
theorem dX5_bet_82 : decode cX5_bet 82 = .ok (.getfield 155, 3) := by decide +kernel
theorem dX5_bet_85 : decode cX5_bet 85 = .ok (.iload 5, 2) := by decide +kernel
theorem dX5_bet_87 : decode cX5_bet 87 = .ok (.iconst 1, 1) := by decide +kernel
theorem dX5_bet_88 : decode cX5_bet 88 = .ok (.invokestatic 200, 3) := by decide +kernel
theorem dX5_bet_91 : decode cX5_bet 91 = .ok (.idiv, 1) := by decide +kernel
theorem dX5_bet_92 : decode cX5_bet 92 = .ok (.ireturn, 1) := by decide +kernel
theorem dX5_sure_0 : decode cX5_sure 0 = .ok (.aload_n 0, 1) := by decide +kernel
theorem dX5_sure_1 : decode cX5_sure 1 = .ok (.invokevirtual 152, 3) := by decide +kernel
theorem dX5_sure_4 : decode cX5_sure 4 = .ok (.aload_n 0, 1) := by decide +kernel
theorem dX5_sure_5 : decode cX5_sure 5 = .ok (.getfield 39, 3) := by decide +kernel
theorem dX5_sure_8 : decode cX5_sure 8 = .ok (.getfield 155, 3) := by decide +kernel
theorem dX5_sure_11 : decode cX5_sure 11 = .ok (.ifCond .ne 6, 3) := by decide +kernel
theorem dX5_sure_14 : decode cX5_sure 14 = .ok (.bipush (-5), 2) := by decide +kernel
theorem dX5_sure_16 : decode cX5_sure 16 = .ok (.ireturn, 1) := by decide +kernel
theorem dX5_sure_17 : decode cX5_sure 17 = .ok (.bipush (-5), 2) := by decide +kernel
theorem dX5_sure_19 : decode cX5_sure 19 = .ok (.istore_n 1, 1) := by decide +kernel
theorem dX5_sure_20 : decode cX5_sure 20 = .ok (.iconst 5, 1) := by decide +kernel
theorem dX5_sure_21 : decode cX5_sure 21 = .ok (.istore_n 2, 1) := by decide +kernel
theorem dX5_sure_22 : decode cX5_sure 22 = .ok (.iconst 0, 1) := by decide +kernel
theorem dX5_sure_23 : decode cX5_sure 23 = .ok (.istore_n 3, 1) := by decide +kernel
theorem dX5_sure_24 : decode cX5_sure 24 = .ok (.iload_n 3, 1) := by decide +kernel
theorem dX5_sure_25 : decode cX5_sure 25 = .ok (.iconst 1, 1) := by decide +kernel
theorem dX5_sure_26 : decode cX5_sure 26 = .ok (.aload_n 0, 1) := by decide +kernel
theorem dX5_sure_27 : decode cX5_sure 27 = .ok (.getfield 12, 3) := by decide +kernel
theorem dX5_sure_30 : decode cX5_sure 30 = .ok (.getfield 32, 3) := by decide +kernel
theorem dX5_sure_33 : decode cX5_sure 33 = .ok (.getfield 205, 3) := by decide +kernel
theorem dX5_sure_36 : decode cX5_sure 36 = .ok (.ishl, 1) := by decide +kernel
theorem dX5_sure_37 : decode cX5_sure 37 = .ok (.if_icmp .ge 65, 3) := by decide +kernel
theorem dX5_sure_40 : decode cX5_sure 40 = .ok (.iload_n 3, 1) := by decide +kernel
theorem dX5_sure_41 : decode cX5_sure 41 = .ok (.invokestatic 208, 3) := by decide +kernel
theorem dX5_sure_44 : decode cX5_sure 44 = .ok (.istore 4, 2) := by decide +kernel
theorem dX5_sure_46 : decode cX5_sure 46 = .ok (.iload 4, 2) := by decide +kernel
theorem dX5_sure_48 : decode cX5_sure 48 = .ok (.iload_n 2, 1) := by decide +kernel
theorem dX5_sure_49 : decode cX5_sure 49 = .ok (.if_icmp .ge 47, 3) := by decide +kernel
theorem dX5_sure_52 : decode cX5_sure 52 = .ok (.aload_n 0, 1) := by decide +kernel
theorem dX5_sure_53 : decode cX5_sure 53 = .ok (.iload_n 3, 1) := by decide +kernel
theorem dX5_sure_54 : decode cX5_sure 54 = .ok (.invokevirtual 213, 3) := by decide +kernel
theorem dX5_sure_57 : decode cX5_sure 57 = .ok (.aload_n 0, 1) := by decide +kernel
theorem dX5_sure_58 : decode cX5_sure 58 = .ok (.invokevirtual 191, 3) := by decide +kernel
theorem dX5_sure_61 : decode cX5_sure 61 = .ok (.aload_n 0, 1) := by decide +kernel
theorem dX5_sure_62 : decode cX5_sure 62 = .ok (.getfield 46, 3) := by decide +kernel
theorem dX5_sure_65 : decode cX5_sure 65 = .ok (.getfield 155, 3) := by decide +kernel
theorem dX5_sure_68 : decode cX5_sure 68 = .ok (.iconst 1, 1) := by decide +kernel
theorem dX5_sure_69 : decode cX5_sure 69 = .ok (.if_icmp .ne 7, 3) := by decide +kernel
theorem dX5_sure_72 : decode cX5_sure 72 = .ok (.iload_n 3, 1) := by decide +kernel
theorem dX5_sure_73 : decode cX5_sure 73 = .ok (.goto 4, 3) := by decide +kernel
theorem dX5_sure_76 : decode cX5_sure 76 = .ok (.iload_n 1, 1) := by decide +kernel
theorem dX5_sure_77 : decode cX5_sure 77 = .ok (.istore_n 1, 1) := by decide +kernel
theorem dX5_sure_78 : decode cX5_sure 78 = .ok (.aload_n 0, 1) := by decide +kernel
theorem dX5_sure_79 : decode cX5_sure 79 = .ok (.getfield 46, 3) := by decide +kernel
theorem dX5_sure_82 : decode cX5_sure 82 = .ok (.getfield 155, 3) := by decide +kernel
theorem dX5_sure_85 : decode cX5_sure 85 = .ok (.iconst 1, 1) := by decide +kernel
theorem dX5_sure_86 : decode cX5_sure 86 = .ok (.if_icmp .ne 8, 3) := by decide +kernel
theorem dX5_sure_89 : decode cX5_sure 89 = .ok (.iload 4, 2) := by decide +kernel
theorem dX5_sure_91 : decode cX5_sure 91 = .ok (.goto 4, 3) := by decide +kernel
theorem dX5_sure_94 : decode cX5_sure 94 = .ok (.iload_n 2, 1) := by decide +kernel
theorem dX5_sure_95 : decode cX5_sure 95 = .ok (.istore_n 2, 1) := by decide +kernel
theorem dX5_sure_96 : decode cX5_sure 96 = .ok (.iinc 3 1, 3) := by decide +kernel
theorem dX5_sure_99 : decode cX5_sure 99 = .ok (.goto (-75), 3) := by decide +kernel
theorem dX5_sure_102 : decode cX5_sure 102 = .ok (.iload_n 1, 1) := by decide +kernel
theorem dX5_sure_103 : decode cX5_sure 103 = .ok (.ireturn, 1) := by decide +kernel
theorem dX5_secret_0 : decode cX5_secret 0 = .ok (.aload_n 0, 1) := by decide +kernel
theorem dX5_secret_1 : decode cX5_secret 1 = .ok (.getfield 12, 3) := by decide +kernel
theorem dX5_secret_4 : decode cX5_secret 4 = .ok (.getfield 32, 3) := by decide +kernel
theorem dX5_secret_7 : decode cX5_secret 7 = .ok (.iload_n 1, 1) := by decide +kernel
theorem dX5_secret_8 : decode cX5_secret 8 = .ok (.invokevirtual 96, 3) := by decide +kernel
theorem dX5_secret_11 : decode cX5_secret 11 = .ok (.ifCond .eq 10, 3) := by decide +kernel
theorem dX5_secret_14 : decode cX5_secret 14 = .ok (.iload_n 2, 1) := by decide +kernel
theorem dX5_secret_15 : decode cX5_secret 15 = .ok (.invokestatic 170, 3) := by decide +kernel
theorem dX5_secret_18 : decode cX5_secret 18 = .ok (.ifCond .ne 5, 3) := by decide +kernel
theorem dX5_secret_21 : decode cX5_secret 21 = .ok (.iconst (-1), 1) := by decide +kernel
theorem dX5_secret_22 : decode cX5_secret 22 = .ok (.ireturn, 1) := by decide +kernel
theorem dX5_secret_23 : decode cX5_secret 23 = .ok (.aload_n 0, 1) := by decide +kernel
theorem dX5_secret_24 : decode cX5_secret 24 = .ok (.getfield 46, 3) := by decide +kernel
theorem dX5_secret_27 : decode cX5_secret 27 = .ok (.getfield 187, 3) := by decide +kernel
theorem dX5_secret_30 : decode cX5_secret 30 = .ok (.aload_n 0, 1) := by decide +kernel
theorem dX5_secret_31 : decode cX5_secret 31 = .ok (.getfield 12, 3) := by decide +kernel
theorem dX5_secret_34 : decode cX5_secret 34 = .ok (.getfield 32, 3) := by decide +kernel
theorem dX5_secret_37 : decode cX5_secret 37 = .ok (.invokevirtual 188, 3) := by decide +kernel
theorem dX5_secret_40 : decode cX5_secret 40 = .ok (.aload_n 0, 1) := by decide +kernel
theorem dX5_secret_41 : decode cX5_secret 41 = .ok (.getfield 46, 3) := by decide +kernel
theorem dX5_secret_44 : decode cX5_secret 44 = .ok (.getfield 187, 3) := by decide +kernel
theorem dX5_secret_47 : decode cX5_secret 47 = .ok (.getfield 100, 3) := by decide +kernel
theorem dX5_secret_50 : decode cX5_secret 50 = .ok (.iload_n 1, 1) := by decide +kernel
theorem dX5_secret_51 : decode cX5_secret 51 = .ok (.iconst 3, 1) := by decide +kernel
theorem dX5_secret_52 : decode cX5_secret 52 = .ok (.iastore, 1) := by decide +kernel
theorem dX5_secret_53 : decode cX5_secret 53 = .ok (.aload_n 0, 1) := by decide +kernel
theorem dX5_secret_54 : decode cX5_secret 54 = .ok (.invokevirtual 191, 3) := by decide +kernel
theorem dX5_secret_57 : decode cX5_secret 57 = .ok (.iload_n 2, 1) := by decide +kernel
theorem dX5_secret_58 : decode cX5_secret 58 = .ok (.ifCond .ne 11, 3) := by decide +kernel
theorem dX5_secret_61 : decode cX5_secret 61 = .ok (.aload_n 0, 1) := by decide +kernel
theorem dX5_secret_62 : decode cX5_secret 62 = .ok (.getfield 46, 3) := by decide +kernel
theorem dX5_secret_65 : decode cX5_secret 65 = .ok (.getfield 164, 3) := by decide +kernel
theorem dX5_secret_68 : decode cX5_secret 68 = .ok (.ireturn, 1) := by decide +kernel
theorem dX5_secret_69 : decode cX5_secret 69 = .ok (.aload_n 0, 1) := by decide +kernel
theorem dX5_secret_70 : decode cX5_secret 70 = .ok (.invokevirtual 152, 3) := by decide +kernel
theorem dX5_secret_73 : decode cX5_secret 73 = .ok (.aload_n 0, 1) := by decide +kernel
theorem dX5_secret_74 : decode cX5_secret 74 = .ok (.getfield 46, 3) := by decide +kernel
theorem dX5_secret_77 : decode cX5_secret 77 = .ok (.getfield 155, 3) := by decide +kernel
theorem dX5_secret_80 : decode cX5_secret 80 = .ok (.ifCond .eq 13, 3) := by decide +kernel
theorem dX5_secret_83 : decode cX5_secret 83 = .ok (.aload_n 0, 1) := by decide +kernel
theorem dX5_secret_84 : decode cX5_secret 84 = .ok (.getfield 39, 3) := by decide +kernel
theorem dX5_secret_87 : decode cX5_secret 87 = .ok (.getfield 155, 3) := by decide +kernel
theorem dX5_secret_90 : decode cX5_secret 90 = .ok (.ifCond .ne 6, 3) := by decide +kernel
theorem dX5_secret_93 : decode cX5_secret 93 = .ok (.bipush (-5), 2) := by decide +kernel
theorem dX5_secret_95 : decode cX5_secret 95 = .ok (.ireturn, 1) := by decide +kernel
theorem dX5_secret_96 : decode cX5_secret 96 = .ok (.iload_n 1, 1) := by decide +kernel
theorem dX5_secret_97 : decode cX5_secret 97 = .ok (.aload_n 0, 1) := by decide +kernel
theorem dX5_secret_98 : decode cX5_secret 98 = .ok (.getfield 46, 3) := by decide +kernel
theorem dX5_secret_101 : decode cX5_secret 101 = .ok (.getfield 164, 3) := by decide +kernel
theorem dX5_secret_104 : decode cX5_secret 104 = .ok (.invokestatic 217, 3) := by decide +kernel
theorem dX5_secret_107 : decode cX5_secret 107 = .ok (.iload_n 1, 1) := by decide +kernel
theorem dX5_secret_108 : decode cX5_secret 108 = .ok (.aload_n 0, 1) := by decide +kernel
theorem dX5_secret_109 : decode cX5_secret 109 = .ok (.getfield 39, 3) := by decide +kernel
theorem dX5_secret_112 : decode cX5_secret 112 = .ok (.getfield 164, 3) := by decide +kernel
theorem dX5_secret_115 : decode cX5_secret 115 = .ok (.invokestatic 217, 3) := by decide +kernel
theorem dX5_secret_118 : decode cX5_secret 118 = .ok (.ixor, 1) := by decide +kernel
theorem dX5_secret_119 : decode cX5_secret 119 = .ok (.invokestatic 208, 3) := by decide +kernel
theorem dX5_secret_122 : decode cX5_secret 122 = .ok (.ireturn, 1) := by decide +kernel
theorem dX5_swap_0 : decode cX5_swap 0 = .ok (.iload_n 1, 1) := by decide +kernel
theorem dX5_swap_1 : decode cX5_swap 1 = .ok (.invokestatic 170, 3) := by decide +kernel
theorem dX5_swap_4 : decode cX5_swap 4 = .ok (.ifCond .ne 5, 3) := by decide +kernel
theorem dX5_swap_7 : decode cX5_swap 7 = .ok (.iconst (-1), 1) := by decide +kernel
theorem dX5_swap_8 : decode cX5_swap 8 = .ok (.ireturn, 1) := by decide +kernel
theorem dX5_swap_9 : decode cX5_swap 9 = .ok (.aload_n 0, 1) := by decide +kernel
theorem dX5_swap_10 : decode cX5_swap 10 = .ok (.invokevirtual 152, 3) := by decide +kernel
theorem dX5_swap_13 : decode cX5_swap 13 = .ok (.iconst 0, 1) := by decide +kernel
theorem dX5_swap_14 : decode cX5_swap 14 = .ok (.istore_n 2, 1) := by decide +kernel
theorem dX5_swap_15 : decode cX5_swap 15 = .ok (.bipush (-5), 2) := by decide +kernel
theorem dX5_swap_17 : decode cX5_swap 17 = .ok (.istore_n 3, 1) := by decide +kernel
theorem dX5_swap_18 : decode cX5_swap 18 = .ok (.iconst 0, 1) := by decide +kernel
theorem dX5_swap_19 : decode cX5_swap 19 = .ok (.istore 4, 2) := by decide +kernel
theorem dX5_swap_21 : decode cX5_swap 21 = .ok (.iload 4, 2) := by decide +kernel
theorem dX5_swap_23 : decode cX5_swap 23 = .ok (.aload_n 0, 1) := by decide +kernel
theorem dX5_swap_24 : decode cX5_swap 24 = .ok (.getfield 12, 3) := by decide +kernel
theorem dX5_swap_27 : decode cX5_swap 27 = .ok (.getfield 32, 3) := by decide +kernel
theorem dX5_swap_30 : decode cX5_swap 30 = .ok (.getfield 205, 3) := by decide +kernel
theorem dX5_swap_33 : decode cX5_swap 33 = .ok (.if_icmp .ge 102, 3) := by decide +kernel
theorem dX5_swap_36 : decode cX5_swap 36 = .ok (.iload 4, 2) := by decide +kernel
theorem dX5_swap_38 : decode cX5_swap 38 = .ok (.iconst 1, 1) := by decide +kernel
theorem dX5_swap_39 : decode cX5_swap 39 = .ok (.iadd, 1) := by decide +kernel
theorem dX5_swap_40 : decode cX5_swap 40 = .ok (.istore 5, 2) := by decide +kernel
theorem dX5_swap_42 : decode cX5_swap 42 = .ok (.iload 5, 2) := by decide +kernel
theorem dX5_swap_44 : decode cX5_swap 44 = .ok (.aload_n 0, 1) := by decide +kernel
theorem dX5_swap_45 : decode cX5_swap 45 = .ok (.getfield 12, 3) := by decide +kernel
theorem dX5_swap_48 : decode cX5_swap 48 = .ok (.getfield 32, 3) := by decide +kernel
theorem dX5_swap_51 : decode cX5_swap 51 = .ok (.getfield 205, 3) := by decide +kernel
theorem dX5_swap_54 : decode cX5_swap 54 = .ok (.if_icmp .ge 75, 3) := by decide +kernel
theorem dX5_swap_57 : decode cX5_swap 57 = .ok (.aload_n 0, 1) := by decide +kernel
theorem dX5_swap_58 : decode cX5_swap 58 = .ok (.getfield 46, 3) := by decide +kernel
theorem dX5_swap_61 : decode cX5_swap 61 = .ok (.getfield 187, 3) := by decide +kernel
theorem dX5_swap_64 : decode cX5_swap 64 = .ok (.aload_n 0, 1) := by decide +kernel
theorem dX5_swap_65 : decode cX5_swap 65 = .ok (.getfield 12, 3) := by decide +kernel
theorem dX5_swap_68 : decode cX5_swap 68 = .ok (.getfield 32, 3) := by decide +kernel
theorem dX5_swap_71 : decode cX5_swap 71 = .ok (.invokevirtual 188, 3) := by decide +kernel
theorem dX5_swap_74 : decode cX5_swap 74 = .ok (.aload_n 0, 1) := by decide +kernel
theorem dX5_swap_75 : decode cX5_swap 75 = .ok (.getfield 46, 3) := by decide +kernel
theorem dX5_swap_78 : decode cX5_swap 78 = .ok (.getfield 187, 3) := by decide +kernel
theorem dX5_swap_81 : decode cX5_swap 81 = .ok (.iload 4, 2) := by decide +kernel
theorem dX5_swap_83 : decode cX5_swap 83 = .ok (.iload 5, 2) := by decide +kernel
theorem dX5_swap_85 : decode cX5_swap 85 = .ok (.invokevirtual 220, 3) := by decide +kernel
theorem dX5_swap_88 : decode cX5_swap 88 = .ok (.aload_n 0, 1) := by decide +kernel
theorem dX5_swap_89 : decode cX5_swap 89 = .ok (.invokevirtual 191, 3) := by decide +kernel
theorem dX5_swap_92 : decode cX5_swap 92 = .ok (.aload_n 0, 1) := by decide +kernel
theorem dX5_swap_93 : decode cX5_swap 93 = .ok (.iload 4, 2) := by decide +kernel
theorem dX5_swap_95 : decode cX5_swap 95 = .ok (.iload 5, 2) := by decide +kernel
theorem dX5_swap_97 : decode cX5_swap 97 = .ok (.invokevirtual 223, 3) := by decide +kernel
theorem dX5_swap_100 : decode cX5_swap 100 = .ok (.ifCond .eq 23, 3) := by decide +kernel
theorem dX5_swap_103 : decode cX5_swap 103 = .ok (.iload_n 2, 1) := by decide +kernel
theorem dX5_swap_104 : decode cX5_swap 104 = .ok (.ifCond .ne 14, 3) := by decide +kernel
theorem dX5_swap_107 : decode cX5_swap 107 = .ok (.bipush 10, 2) := by decide +kernel
theorem dX5_swap_109 : decode cX5_swap 109 = .ok (.iload 4, 2) := by decide +kernel
theorem dX5_swap_111 : decode cX5_swap 111 = .ok (.imul, 1) := by decide +kernel
theorem dX5_swap_112 : decode cX5_swap 112 = .ok (.iload 5, 2) := by decide +kernel
theorem dX5_swap_114 : decode cX5_swap 114 = .ok (.iadd, 1) := by decide +kernel
theorem dX5_swap_115 : decode cX5_swap 115 = .ok (.goto 4, 3) := by decide +kernel
theorem dX5_swap_118 : decode cX5_swap 118 = .ok (.iload_n 3, 1) := by decide +kernel
theorem dX5_swap_119 : decode cX5_swap 119 = .ok (.istore_n 3, 1) := by decide +kernel
theorem dX5_swap_120 : decode cX5_swap 120 = .ok (.iinc 2 1, 3) := by decide +kernel
theorem dX5_swap_123 : decode cX5_swap 123 = .ok (.iinc 5 1, 3) := by decide +kernel
theorem dX5_swap_126 : decode cX5_swap 126 = .ok (.goto (-84), 3) := by decide +kernel
theorem dX5_swap_129 : decode cX5_swap 129 = .ok (.iinc 4 1, 3) := by decide +kernel
theorem dX5_swap_132 : decode cX5_swap 132 = .ok (.goto (-111), 3) := by decide +kernel
theorem dX5_swap_135 : decode cX5_swap 135 = .ok (.iload_n 1, 1) := by decide +kernel
theorem dX5_swap_136 : decode cX5_swap 136 = .ok (.ifCond .ne 7, 3) := by decide +kernel
theorem dX5_swap_139 : decode cX5_swap 139 = .ok (.iload_n 2, 1) := by decide +kernel
theorem dX5_swap_140 : decode cX5_swap 140 = .ok (.goto 4, 3) := by decide +kernel
theorem dX5_swap_143 : decode cX5_swap 143 = .ok (.iload_n 3, 1) := by decide +kernel
theorem dX5_swap_144 : decode cX5_swap 144 = .ok (.ireturn, 1) := by decide +kernel
theorem dX5_book_0 : decode cX5_book 0 = .ok (.iload_n 1, 1) := by decide +kernel
theorem dX5_book_1 : decode cX5_book 1 = .ok (.iconst (-1), 1) := by decide +kernel
theorem dX5_book_2 : decode cX5_book 2 = .ok (.if_icmp .ne 13, 3) := by decide +kernel
theorem dX5_book_5 : decode cX5_book 5 = .ok (.aload_n 0, 1) := by decide +kernel
theorem dX5_book_6 : decode cX5_book 6 = .ok (.getfield 12, 3) := by decide +kernel
theorem dX5_book_9 : decode cX5_book 9 = .ok (.iconst 0, 1) := by decide +kernel
theorem dX5_book_10 : decode cX5_book 10 = .ok (.putfield 227, 3) := by decide +kernel
theorem dX5_book_13 : decode cX5_book 13 = .ok (.iconst 0, 1) := by decide +kernel
theorem dX5_book_14 : decode cX5_book 14 = .ok (.ireturn, 1) := by decide +kernel
theorem dX5_book_15 : decode cX5_book 15 = .ok (.aload_n 0, 1) := by decide +kernel
theorem dX5_book_16 : decode cX5_book 16 = .ok (.getfield 12, 3) := by decide +kernel
theorem dX5_book_19 : decode cX5_book 19 = .ok (.getfield 32, 3) := by decide +kernel
theorem dX5_book_22 : decode cX5_book 22 = .ok (.iload_n 1, 1) := by decide +kernel
theorem dX5_book_23 : decode cX5_book 23 = .ok (.invokevirtual 117, 3) := by decide +kernel
theorem dX5_book_26 : decode cX5_book 26 = .ok (.ifCond .ne 6, 3) := by decide +kernel
theorem dX5_book_29 : decode cX5_book 29 = .ok (.bipush (-2), 2) := by decide +kernel
theorem dX5_book_31 : decode cX5_book 31 = .ok (.ireturn, 1) := by decide +kernel
theorem dX5_book_32 : decode cX5_book 32 = .ok (.aload_n 0, 1) := by decide +kernel
theorem dX5_book_33 : decode cX5_book 33 = .ok (.getfield 12, 3) := by decide +kernel
theorem dX5_book_36 : decode cX5_book 36 = .ok (.getfield 227, 3) := by decide +kernel
theorem dX5_book_39 : decode cX5_book 39 = .ok (.ifCond .lt 21, 3) := by decide +kernel
theorem dX5_book_42 : decode cX5_book 42 = .ok (.aload_n 0, 1) := by decide +kernel
theorem dX5_book_43 : decode cX5_book 43 = .ok (.getfield 12, 3) := by decide +kernel
theorem dX5_book_46 : decode cX5_book 46 = .ok (.getfield 227, 3) := by decide +kernel
theorem dX5_book_49 : decode cX5_book 49 = .ok (.aload_n 0, 1) := by decide +kernel
theorem dX5_book_50 : decode cX5_book 50 = .ok (.getfield 12, 3) := by decide +kernel
theorem dX5_book_53 : decode cX5_book 53 = .ok (.getfield 230, 3) := by decide +kernel
theorem dX5_book_56 : decode cX5_book 56 = .ok (.arraylength, 1) := by decide +kernel
theorem dX5_book_57 : decode cX5_book 57 = .ok (.if_icmp .lt 6, 3) := by decide +kernel
theorem dX5_book_60 : decode cX5_book 60 = .ok (.bipush (-4), 2) := by decide +kernel
theorem dX5_book_62 : decode cX5_book 62 = .ok (.ireturn, 1) := by decide +kernel
theorem dX5_book_63 : decode cX5_book 63 = .ok (.aload_n 0, 1) := by decide +kernel
theorem dX5_book_64 : decode cX5_book 64 = .ok (.getfield 12, 3) := by decide +kernel
theorem dX5_book_67 : decode cX5_book 67 = .ok (.getfield 230, 3) := by decide +kernel
theorem dX5_book_70 : decode cX5_book 70 = .ok (.aload_n 0, 1) := by decide +kernel
theorem dX5_book_71 : decode cX5_book 71 = .ok (.getfield 12, 3) := by decide +kernel
theorem dX5_book_74 : decode cX5_book 74 = .ok (.getfield 227, 3) := by decide +kernel
theorem dX5_book_77 : decode cX5_book 77 = .ok (.iload_n 1, 1) := by decide +kernel
theorem dX5_book_78 : decode cX5_book 78 = .ok (.iastore, 1) := by decide +kernel
theorem dX5_book_79 : decode cX5_book 79 = .ok (.aload_n 0, 1) := by decide +kernel
theorem dX5_book_80 : decode cX5_book 80 = .ok (.getfield 12, 3) := by decide +kernel
theorem dX5_book_83 : decode cX5_book 83 = .ok (.dup, 1) := by decide +kernel
theorem dX5_book_84 : decode cX5_book 84 = .ok (.getfield 227, 3) := by decide +kernel
theorem dX5_book_87 : decode cX5_book 87 = .ok (.iconst 1, 1) := by decide +kernel
theorem dX5_book_88 : decode cX5_book 88 = .ok (.iadd, 1) := by decide +kernel
theorem dX5_book_89 : decode cX5_book 89 = .ok (.putfield 227, 3) := by decide +kernel
theorem dX5_book_92 : decode cX5_book 92 = .ok (.aload_n 0, 1) := by decide +kernel
theorem dX5_book_93 : decode cX5_book 93 = .ok (.getfield 12, 3) := by decide +kernel
theorem dX5_book_96 : decode cX5_book 96 = .ok (.getfield 227, 3) := by decide +kernel
theorem dX5_book_99 : decode cX5_book 99 = .ok (.ireturn, 1) := by decide +kernel
theorem dX5_looked_0 : decode cX5_looked 0 = .ok (.iload_n 1, 1) := by decide +kernel
theorem dX5_looked_1 : decode cX5_looked 1 = .ok (.invokestatic 170, 3) := by decide +kernel
theorem dX5_looked_4 : decode cX5_looked 4 = .ok (.ifCond .ne 5, 3) := by decide +kernel
theorem dX5_looked_7 : decode cX5_looked 7 = .ok (.iconst (-1), 1) := by decide +kernel
theorem dX5_looked_8 : decode cX5_looked 8 = .ok (.ireturn, 1) := by decide +kernel
theorem dX5_looked_9 : decode cX5_looked 9 = .ok (.aload_n 0, 1) := by decide +kernel
theorem dX5_looked_10 : decode cX5_looked 10 = .ok (.getfield 39, 3) := by decide +kernel
theorem dX5_looked_13 : decode cX5_looked 13 = .ok (.aload_n 0, 1) := by decide +kernel
theorem dX5_looked_14 : decode cX5_looked 14 = .ok (.invokevirtual 76, 3) := by decide +kernel
theorem dX5_looked_17 : decode cX5_looked 17 = .ok (.invokevirtual 123, 3) := by decide +kernel
theorem dX5_looked_20 : decode cX5_looked 20 = .ok (.iconst 0, 1) := by decide +kernel
theorem dX5_looked_21 : decode cX5_looked 21 = .ok (.istore_n 2, 1) := by decide +kernel
theorem dX5_looked_22 : decode cX5_looked 22 = .ok (.bipush (-5), 2) := by decide +kernel
theorem dX5_looked_24 : decode cX5_looked 24 = .ok (.istore_n 3, 1) := by decide +kernel
theorem dX5_looked_25 : decode cX5_looked 25 = .ok (.iconst 0, 1) := by decide +kernel
theorem dX5_looked_26 : decode cX5_looked 26 = .ok (.istore 4, 2) := by decide +kernel
theorem dX5_looked_28 : decode cX5_looked 28 = .ok (.iload 4, 2) := by decide +kernel
theorem dX5_looked_30 : decode cX5_looked 30 = .ok (.aload_n 0, 1) := by decide +kernel
theorem dX5_looked_31 : decode cX5_looked 31 = .ok (.getfield 12, 3) := by decide +kernel
theorem dX5_looked_34 : decode cX5_looked 34 = .ok (.getfield 227, 3) := by decide +kernel
theorem dX5_looked_37 : decode cX5_looked 37 = .ok (.if_icmp .ge 63, 3) := by decide +kernel
theorem dX5_looked_40 : decode cX5_looked 40 = .ok (.iload 4, 2) := by decide +kernel
theorem dX5_looked_42 : decode cX5_looked 42 = .ok (.aload_n 0, 1) := by decide +kernel
theorem dX5_looked_43 : decode cX5_looked 43 = .ok (.getfield 12, 3) := by decide +kernel
theorem dX5_looked_46 : decode cX5_looked 46 = .ok (.getfield 230, 3) := by decide +kernel
theorem dX5_looked_49 : decode cX5_looked 49 = .ok (.arraylength, 1) := by decide +kernel
theorem dX5_looked_50 : decode cX5_looked 50 = .ok (.if_icmp .ge 50, 3) := by decide +kernel
theorem dX5_looked_53 : decode cX5_looked 53 = .ok (.aload_n 0, 1) := by decide +kernel
theorem dX5_looked_54 : decode cX5_looked 54 = .ok (.getfield 39, 3) := by decide +kernel
theorem dX5_looked_57 : decode cX5_looked 57 = .ok (.aload_n 0, 1) := by decide +kernel
theorem dX5_looked_58 : decode cX5_looked 58 = .ok (.getfield 12, 3) := by decide +kernel
theorem dX5_looked_61 : decode cX5_looked 61 = .ok (.getfield 230, 3) := by decide +kernel
theorem dX5_looked_64 : decode cX5_looked 64 = .ok (.iload 4, 2) := by decide +kernel
theorem dX5_looked_66 : decode cX5_looked 66 = .ok (.iaload, 1) := by decide +kernel
theorem dX5_looked_67 : decode cX5_looked 67 = .ok (.invokevirtual 173, 3) := by decide +kernel
theorem dX5_looked_70 : decode cX5_looked 70 = .ok (.ifCond .eq 9, 3) := by decide +kernel
theorem dX5_looked_73 : decode cX5_looked 73 = .ok (.iinc 2 1, 3) := by decide +kernel
theorem dX5_looked_76 : decode cX5_looked 76 = .ok (.goto 18, 3) := by decide +kernel
theorem dX5_looked_79 : decode cX5_looked 79 = .ok (.iload_n 3, 1) := by decide +kernel
theorem dX5_looked_80 : decode cX5_looked 80 = .ok (.ifCond .ge 14, 3) := by decide +kernel
theorem dX5_looked_83 : decode cX5_looked 83 = .ok (.aload_n 0, 1) := by decide +kernel
theorem dX5_looked_84 : decode cX5_looked 84 = .ok (.getfield 12, 3) := by decide +kernel
theorem dX5_looked_87 : decode cX5_looked 87 = .ok (.getfield 230, 3) := by decide +kernel
theorem dX5_looked_90 : decode cX5_looked 90 = .ok (.iload 4, 2) := by decide +kernel
theorem dX5_looked_92 : decode cX5_looked 92 = .ok (.iaload, 1) := by decide +kernel
theorem dX5_looked_93 : decode cX5_looked 93 = .ok (.istore_n 3, 1) := by decide +kernel
theorem dX5_looked_94 : decode cX5_looked 94 = .ok (.iinc 4 1, 3) := by decide +kernel
theorem dX5_looked_97 : decode cX5_looked 97 = .ok (.goto (-69), 3) := by decide +kernel
theorem dX5_looked_100 : decode cX5_looked 100 = .ok (.iload_n 1, 1) := by decide +kernel
theorem dX5_looked_101 : decode cX5_looked 101 = .ok (.ifCond .ne 7, 3) := by decide +kernel
theorem dX5_looked_104 : decode cX5_looked 104 = .ok (.iload_n 2, 1) := by decide +kernel
theorem dX5_looked_105 : decode cX5_looked 105 = .ok (.goto 4, 3) := by decide +kernel
theorem dX5_looked_108 : decode cX5_looked 108 = .ok (.iload_n 3, 1) := by decide +kernel
theorem dX5_looked_109 : decode cX5_looked 109 = .ok (.ireturn, 1) := by decide +kernel
theorem dX5_act_0 : decode cX5_act 0 = .ok (.aload_n 0, 1) := by decide +kernel
theorem dX5_act_1 : decode cX5_act 1 = .ok (.getfield 56, 3) := by decide +kernel
theorem dX5_act_4 : decode cX5_act 4 = .ok (.invokevirtual 233, 3) := by decide +kernel
theorem dX5_act_7 : decode cX5_act 7 = .ok (.aload_n 0, 1) := by decide +kernel
theorem dX5_act_8 : decode cX5_act 8 = .ok (.getfield 12, 3) := by decide +kernel
theorem dX5_act_11 : decode cX5_act 11 = .ok (.getfield 32, 3) := by decide +kernel
theorem dX5_act_14 : decode cX5_act 14 = .ok (.iload_n 1, 1) := by decide +kernel
theorem dX5_act_15 : decode cX5_act 15 = .ok (.invokevirtual 96, 3) := by decide +kernel
theorem dX5_act_18 : decode cX5_act 18 = .ok (.ifCond .eq 12, 3) := by decide +kernel
theorem dX5_act_21 : decode cX5_act 21 = .ok (.iload_n 2, 1) := by decide +kernel
theorem dX5_act_22 : decode cX5_act 22 = .ok (.ifCond .lt 8, 3) := by decide +kernel
theorem dX5_act_25 : decode cX5_act 25 = .ok (.iload_n 2, 1) := by decide +kernel
theorem dX5_act_26 : decode cX5_act 26 = .ok (.iconst 3, 1) := by decide +kernel
theorem dX5_act_27 : decode cX5_act 27 = .ok (.if_icmp .lt 5, 3) := by decide +kernel
theorem dX5_act_30 : decode cX5_act 30 = .ok (.iconst 0, 1) := by decide +kernel
theorem dX5_act_31 : decode cX5_act 31 = .ok (.ireturn, 1) := by decide +kernel
theorem dX5_act_32 : decode cX5_act 32 = .ok (.aload_n 0, 1) := by decide +kernel
theorem dX5_act_33 : decode cX5_act 33 = .ok (.getfield 56, 3) := by decide +kernel
theorem dX5_act_36 : decode cX5_act 36 = .ok (.aload_n 0, 1) := by decide +kernel
theorem dX5_act_37 : decode cX5_act 37 = .ok (.getfield 12, 3) := by decide +kernel
theorem dX5_act_40 : decode cX5_act 40 = .ok (.getfield 32, 3) := by decide +kernel
theorem dX5_act_43 : decode cX5_act 43 = .ok (.iload_n 1, 1) := by decide +kernel
theorem dX5_act_44 : decode cX5_act 44 = .ok (.iload_n 2, 1) := by decide +kernel
theorem dX5_act_45 : decode cX5_act 45 = .ok (.iload_n 3, 1) := by decide +kernel
theorem dX5_act_46 : decode cX5_act 46 = .ok (.invokevirtual 236, 3) := by decide +kernel
theorem dX5_act_49 : decode cX5_act 49 = .ok (.ireturn, 1) := by decide +kernel
theorem dX5_trace_0 : decode cX5_trace 0 = .ok (.iload_n 1, 1) := by decide +kernel
theorem dX5_trace_1 : decode cX5_trace 1 = .ok (.ifCond .lt 26, 3) := by decide +kernel
theorem dX5_trace_4 : decode cX5_trace 4 = .ok (.iload_n 1, 1) := by decide +kernel
theorem dX5_trace_5 : decode cX5_trace 5 = .ok (.aload_n 0, 1) := by decide +kernel
theorem dX5_trace_6 : decode cX5_trace 6 = .ok (.getfield 56, 3) := by decide +kernel
theorem dX5_trace_9 : decode cX5_trace 9 = .ok (.getfield 240, 3) := by decide +kernel
theorem dX5_trace_12 : decode cX5_trace 12 = .ok (.if_icmp .ge 15, 3) := by decide +kernel
theorem dX5_trace_15 : decode cX5_trace 15 = .ok (.iload_n 1, 1) := by decide +kernel
theorem dX5_trace_16 : decode cX5_trace 16 = .ok (.aload_n 0, 1) := by decide +kernel
theorem dX5_trace_17 : decode cX5_trace 17 = .ok (.getfield 56, 3) := by decide +kernel
theorem dX5_trace_20 : decode cX5_trace 20 = .ok (.getfield 243, 3) := by decide +kernel
theorem dX5_trace_23 : decode cX5_trace 23 = .ok (.arraylength, 1) := by decide +kernel
theorem dX5_trace_24 : decode cX5_trace 24 = .ok (.if_icmp .lt 5, 3) := by decide +kernel
theorem dX5_trace_27 : decode cX5_trace 27 = .ok (.iconst (-1), 1) := by decide +kernel
theorem dX5_trace_28 : decode cX5_trace 28 = .ok (.ireturn, 1) := by decide +kernel
theorem dX5_trace_29 : decode cX5_trace 29 = .ok (.aload_n 0, 1) := by decide +kernel
theorem dX5_trace_30 : decode cX5_trace 30 = .ok (.getfield 56, 3) := by decide +kernel
theorem dX5_trace_33 : decode cX5_trace 33 = .ok (.getfield 243, 3) := by decide +kernel
theorem dX5_trace_36 : decode cX5_trace 36 = .ok (.iload_n 1, 1) := by decide +kernel
theorem dX5_trace_37 : decode cX5_trace 37 = .ok (.iaload, 1) := by decide +kernel
theorem dX5_trace_38 : decode cX5_trace 38 = .ok (.ireturn, 1) := by decide +kernel
theorem dX5_as_0 : decode cX5_as 0 = .ok (.aload_n 0, 1) := by decide +kernel
theorem dX5_as_1 : decode cX5_as 1 = .ok (.getfield 12, 3) := by decide +kernel
theorem dX5_as_4 : decode cX5_as 4 = .ok (.getfield 32, 3) := by decide +kernel
theorem dX5_as_7 : decode cX5_as 7 = .ok (.iload_n 1, 1) := by decide +kernel
theorem dX5_as_8 : decode cX5_as 8 = .ok (.invokevirtual 96, 3) := by decide +kernel
theorem dX5_as_11 : decode cX5_as 11 = .ok (.ifCond .eq 13, 3) := by decide +kernel
theorem dX5_as_14 : decode cX5_as 14 = .ok (.iload_n 2, 1) := by decide +kernel
theorem dX5_as_15 : decode cX5_as 15 = .ok (.ifCond .lt 9, 3) := by decide +kernel
theorem dX5_as_18 : decode cX5_as 18 = .ok (.iload_n 2, 1) := by decide +kernel
theorem dX5_as_19 : decode cX5_as 19 = .ok (.bipush 7, 2) := by decide +kernel
theorem dX5_as_21 : decode cX5_as 21 = .ok (.if_icmp .lt 5, 3) := by decide +kernel
theorem dX5_as_24 : decode cX5_as 24 = .ok (.iconst (-1), 1) := by decide +kernel
theorem dX5_as_25 : decode cX5_as 25 = .ok (.ireturn, 1) := by decide +kernel
theorem dX5_as_26 : decode cX5_as 26 = .ok (.aload_n 0, 1) := by decide +kernel
theorem dX5_as_27 : decode cX5_as 27 = .ok (.getfield 12, 3) := by decide +kernel
theorem dX5_as_30 : decode cX5_as 30 = .ok (.getfield 32, 3) := by decide +kernel
theorem dX5_as_33 : decode cX5_as 33 = .ok (.getfield 100, 3) := by decide +kernel
theorem dX5_as_36 : decode cX5_as 36 = .ok (.iload_n 1, 1) := by decide +kernel
theorem dX5_as_37 : decode cX5_as 37 = .ok (.iaload, 1) := by decide +kernel
theorem dX5_as_38 : decode cX5_as 38 = .ok (.istore_n 3, 1) := by decide +kernel
theorem dX5_as_39 : decode cX5_as 39 = .ok (.iconst 0, 1) := by decide +kernel
theorem dX5_as_40 : decode cX5_as 40 = .ok (.istore 4, 2) := by decide +kernel
theorem dX5_as_42 : decode cX5_as 42 = .ok (.iload 4, 2) := by decide +kernel
theorem dX5_as_44 : decode cX5_as 44 = .ok (.bipush 7, 2) := by decide +kernel
theorem dX5_as_46 : decode cX5_as 46 = .ok (.if_icmp .ge 43, 3) := by decide +kernel
theorem dX5_as_49 : decode cX5_as 49 = .ok (.iload_n 3, 1) := by decide +kernel
theorem dX5_as_50 : decode cX5_as 50 = .ok (.ifCond .lt 39, 3) := by decide +kernel
theorem dX5_as_53 : decode cX5_as 53 = .ok (.iload_n 3, 1) := by decide +kernel
theorem dX5_as_54 : decode cX5_as 54 = .ok (.bipush 7, 2) := by decide +kernel
theorem dX5_as_56 : decode cX5_as 56 = .ok (.if_icmp .ge 33, 3) := by decide +kernel
theorem dX5_as_59 : decode cX5_as 59 = .ok (.iload_n 3, 1) := by decide +kernel
theorem dX5_as_60 : decode cX5_as 60 = .ok (.iload_n 2, 1) := by decide +kernel
theorem dX5_as_61 : decode cX5_as 61 = .ok (.if_icmp .ne 16, 3) := by decide +kernel
theorem dX5_as_64 : decode cX5_as 64 = .ok (.aload_n 0, 1) := by decide +kernel
theorem dX5_as_65 : decode cX5_as 65 = .ok (.getfield 12, 3) := by decide +kernel
theorem dX5_as_68 : decode cX5_as 68 = .ok (.getfield 32, 3) := by decide +kernel
theorem dX5_as_71 : decode cX5_as 71 = .ok (.getfield 103, 3) := by decide +kernel
theorem dX5_as_74 : decode cX5_as 74 = .ok (.iload_n 1, 1) := by decide +kernel
theorem dX5_as_75 : decode cX5_as 75 = .ok (.iaload, 1) := by decide +kernel
theorem dX5_as_76 : decode cX5_as 76 = .ok (.ireturn, 1) := by decide +kernel
theorem dX5_as_77 : decode cX5_as 77 = .ok (.getstatic 246, 3) := by decide +kernel
theorem dX5_as_80 : decode cX5_as 80 = .ok (.iload_n 3, 1) := by decide +kernel
theorem dX5_as_81 : decode cX5_as 81 = .ok (.iaload, 1) := by decide +kernel
theorem dX5_as_82 : decode cX5_as 82 = .ok (.istore_n 3, 1) := by decide +kernel
theorem dX5_as_83 : decode cX5_as 83 = .ok (.iinc 4 1, 3) := by decide +kernel
theorem dX5_as_86 : decode cX5_as 86 = .ok (.goto (-44), 3) := by decide +kernel
theorem dX5_as_89 : decode cX5_as 89 = .ok (.bipush (-6), 2) := by decide +kernel
theorem dX5_as_91 : decode cX5_as 91 = .ok (.ireturn, 1) := by decide +kernel
theorem dX5_image_0 : decode cX5_image 0 = .ok (.aload_n 0, 1) := by decide +kernel
theorem dX5_image_1 : decode cX5_image 1 = .ok (.getfield 16, 3) := by decide +kernel
theorem dX5_image_4 : decode cX5_image 4 = .ok (.aload_n 0, 1) := by decide +kernel
theorem dX5_image_5 : decode cX5_image 5 = .ok (.getfield 12, 3) := by decide +kernel
theorem dX5_image_8 : decode cX5_image 8 = .ok (.invokevirtual 249, 3) := by decide +kernel
theorem dX5_image_11 : decode cX5_image 11 = .ok (.aload_n 0, 1) := by decide +kernel
theorem dX5_image_12 : decode cX5_image 12 = .ok (.iconst 1, 1) := by decide +kernel
theorem dX5_image_13 : decode cX5_image 13 = .ok (.putfield 252, 3) := by decide +kernel
theorem dX5_image_16 : decode cX5_image 16 = .ok (.aload_n 0, 1) := by decide +kernel
theorem dX5_image_17 : decode cX5_image 17 = .ok (.getfield 12, 3) := by decide +kernel
theorem dX5_image_20 : decode cX5_image 20 = .ok (.getfield 32, 3) := by decide +kernel
theorem dX5_image_23 : decode cX5_image 23 = .ok (.getfield 205, 3) := by decide +kernel
theorem dX5_image_26 : decode cX5_image 26 = .ok (.ireturn, 1) := by decide +kernel
theorem dX5_undo_0 : decode cX5_undo 0 = .ok (.aload_n 0, 1) := by decide +kernel
theorem dX5_undo_1 : decode cX5_undo 1 = .ok (.getfield 252, 3) := by decide +kernel
theorem dX5_undo_4 : decode cX5_undo 4 = .ok (.ifCond .ne 6, 3) := by decide +kernel
theorem dX5_undo_7 : decode cX5_undo 7 = .ok (.bipush (-3), 2) := by decide +kernel
theorem dX5_undo_9 : decode cX5_undo 9 = .ok (.ireturn, 1) := by decide +kernel
theorem dX5_undo_10 : decode cX5_undo 10 = .ok (.aload_n 0, 1) := by decide +kernel
theorem dX5_undo_11 : decode cX5_undo 11 = .ok (.getfield 12, 3) := by decide +kernel
theorem dX5_undo_14 : decode cX5_undo 14 = .ok (.aload_n 0, 1) := by decide +kernel
theorem dX5_undo_15 : decode cX5_undo 15 = .ok (.getfield 16, 3) := by decide +kernel
theorem dX5_undo_18 : decode cX5_undo 18 = .ok (.invokevirtual 249, 3) := by decide +kernel
theorem dX5_undo_21 : decode cX5_undo 21 = .ok (.aload_n 0, 1) := by decide +kernel
theorem dX5_undo_22 : decode cX5_undo 22 = .ok (.invokevirtual 73, 3) := by decide +kernel
theorem dX5_undo_25 : decode cX5_undo 25 = .ok (.aload_n 0, 1) := by decide +kernel
theorem dX5_undo_26 : decode cX5_undo 26 = .ok (.getfield 12, 3) := by decide +kernel
theorem dX5_undo_29 : decode cX5_undo 29 = .ok (.getfield 32, 3) := by decide +kernel
theorem dX5_undo_32 : decode cX5_undo 32 = .ok (.getfield 205, 3) := by decide +kernel
theorem dX5_undo_35 : decode cX5_undo 35 = .ok (.ireturn, 1) := by decide +kernel
theorem dX5_count_0 : decode cX5_count 0 = .ok (.iload_n 1, 1) := by decide +kernel
theorem dX5_count_1 : decode cX5_count 1 = .ok (.tableswitch 78 0 4 #[35, 46, 54, 62, 70], 35) := by decide +kernel
theorem dX5_count_36 : decode cX5_count 36 = .ok (.aload_n 0, 1) := by decide +kernel
theorem dX5_count_37 : decode cX5_count 37 = .ok (.getfield 12, 3) := by decide +kernel
theorem dX5_count_40 : decode cX5_count 40 = .ok (.getfield 32, 3) := by decide +kernel
theorem dX5_count_43 : decode cX5_count 43 = .ok (.getfield 205, 3) := by decide +kernel
theorem dX5_count_46 : decode cX5_count 46 = .ok (.ireturn, 1) := by decide +kernel
theorem dX5_count_47 : decode cX5_count 47 = .ok (.aload_n 0, 1) := by decide +kernel
theorem dX5_count_48 : decode cX5_count 48 = .ok (.getfield 12, 3) := by decide +kernel
theorem dX5_count_51 : decode cX5_count 51 = .ok (.getfield 67, 3) := by decide +kernel
theorem dX5_count_54 : decode cX5_count 54 = .ok (.ireturn, 1) := by decide +kernel
theorem dX5_count_55 : decode cX5_count 55 = .ok (.aload_n 0, 1) := by decide +kernel
theorem dX5_count_56 : decode cX5_count 56 = .ok (.getfield 12, 3) := by decide +kernel
theorem dX5_count_59 : decode cX5_count 59 = .ok (.getfield 227, 3) := by decide +kernel
theorem dX5_count_62 : decode cX5_count 62 = .ok (.ireturn, 1) := by decide +kernel
theorem dX5_count_63 : decode cX5_count 63 = .ok (.aload_n 0, 1) := by decide +kernel
theorem dX5_count_64 : decode cX5_count 64 = .ok (.getfield 12, 3) := by decide +kernel
theorem dX5_count_67 : decode cX5_count 67 = .ok (.getfield 60, 3) := by decide +kernel
theorem dX5_count_70 : decode cX5_count 70 = .ok (.ireturn, 1) := by decide +kernel
theorem dX5_count_71 : decode cX5_count 71 = .ok (.aload_n 0, 1) := by decide +kernel
theorem dX5_count_72 : decode cX5_count 72 = .ok (.getfield 56, 3) := by decide +kernel
theorem dX5_count_75 : decode cX5_count 75 = .ok (.getfield 240, 3) := by decide +kernel
theorem dX5_count_78 : decode cX5_count 78 = .ok (.ireturn, 1) := by decide +kernel
theorem dX5_count_79 : decode cX5_count 79 = .ok (.iconst (-1), 1) := by decide +kernel
theorem dX5_count_80 : decode cX5_count 80 = .ok (.ireturn, 1) := by decide +kernel
theorem dX5_isHour_0 : decode cX5_isHour 0 = .ok (.iload_n 0, 1) := by decide +kernel
theorem dX5_isHour_1 : decode cX5_isHour 1 = .ok (.ifCond .lt 12, 3) := by decide +kernel
theorem dX5_isHour_4 : decode cX5_isHour 4 = .ok (.iload_n 0, 1) := by decide +kernel
theorem dX5_isHour_5 : decode cX5_isHour 5 = .ok (.iconst 3, 1) := by decide +kernel
theorem dX5_isHour_6 : decode cX5_isHour 6 = .ok (.if_icmp .ge 7, 3) := by decide +kernel
theorem dX5_isHour_9 : decode cX5_isHour 9 = .ok (.iconst 1, 1) := by decide +kernel
theorem dX5_isHour_10 : decode cX5_isHour 10 = .ok (.goto 4, 3) := by decide +kernel
theorem dX5_isHour_13 : decode cX5_isHour 13 = .ok (.iconst 0, 1) := by decide +kernel
theorem dX5_isHour_14 : decode cX5_isHour 14 = .ok (.ireturn, 1) := by decide +kernel
theorem dX5_isPart_0 : decode cX5_isPart 0 = .ok (.iload_n 0, 1) := by decide +kernel
theorem dX5_isPart_1 : decode cX5_isPart 1 = .ok (.ifCond .eq 8, 3) := by decide +kernel
theorem dX5_isPart_4 : decode cX5_isPart 4 = .ok (.iload_n 0, 1) := by decide +kernel
theorem dX5_isPart_5 : decode cX5_isPart 5 = .ok (.iconst 1, 1) := by decide +kernel
theorem dX5_isPart_6 : decode cX5_isPart 6 = .ok (.if_icmp .ne 7, 3) := by decide +kernel
theorem dX5_isPart_9 : decode cX5_isPart 9 = .ok (.iconst 1, 1) := by decide +kernel
theorem dX5_isPart_10 : decode cX5_isPart 10 = .ok (.goto 4, 3) := by decide +kernel
theorem dX5_isPart_13 : decode cX5_isPart 13 = .ok (.iconst 0, 1) := by decide +kernel
theorem dX5_isPart_14 : decode cX5_isPart 14 = .ok (.ireturn, 1) := by decide +kernel
theorem dX5_bit_0 : decode cX5_bit 0 = .ok (.iload_n 0, 1) := by decide +kernel
theorem dX5_bit_1 : decode cX5_bit 1 = .ok (.iload_n 1, 1) := by decide +kernel
theorem dX5_bit_2 : decode cX5_bit 2 = .ok (.ishr, 1) := by decide +kernel
theorem dX5_bit_3 : decode cX5_bit 3 = .ok (.iconst 1, 1) := by decide +kernel
theorem dX5_bit_4 : decode cX5_bit 4 = .ok (.iand, 1) := by decide +kernel
theorem dX5_bit_5 : decode cX5_bit 5 = .ok (.ireturn, 1) := by decide +kernel
theorem dX5_ownRow_0 : decode cX5_ownRow 0 = .ok (.iload_n 1, 1) := by decide +kernel
theorem dX5_ownRow_1 : decode cX5_ownRow 1 = .ok (.iconst 3, 1) := by decide +kernel
theorem dX5_ownRow_2 : decode cX5_ownRow 2 = .ok (.iload_n 0, 1) := by decide +kernel
theorem dX5_ownRow_3 : decode cX5_ownRow 3 = .ok (.imul, 1) := by decide +kernel
theorem dX5_ownRow_4 : decode cX5_ownRow 4 = .ok (.ishr, 1) := by decide +kernel
theorem dX5_ownRow_5 : decode cX5_ownRow 5 = .ok (.bipush 7, 2) := by decide +kernel
theorem dX5_ownRow_7 : decode cX5_ownRow 7 = .ok (.iand, 1) := by decide +kernel
theorem dX5_ownRow_8 : decode cX5_ownRow 8 = .ok (.ireturn, 1) := by decide +kernel
theorem dX5_commonDivisor_0 : decode cX5_commonDivisor 0 = .ok (.iconst 0, 1) := by decide +kernel
theorem dX5_commonDivisor_1 : decode cX5_commonDivisor 1 = .ok (.istore_n 2, 1) := by decide +kernel
theorem dX5_commonDivisor_2 : decode cX5_commonDivisor 2 = .ok (.iload_n 2, 1) := by decide +kernel
theorem dX5_commonDivisor_3 : decode cX5_commonDivisor 3 = .ok (.bipush 100, 2) := by decide +kernel
theorem dX5_commonDivisor_5 : decode cX5_commonDivisor 5 = .ok (.if_icmp .ge 21, 3) := by decide +kernel
theorem dX5_commonDivisor_8 : decode cX5_commonDivisor 8 = .ok (.iload_n 1, 1) := by decide +kernel
theorem dX5_commonDivisor_9 : decode cX5_commonDivisor 9 = .ok (.ifCond .eq 17, 3) := by decide +kernel
theorem dX5_commonDivisor_12 : decode cX5_commonDivisor 12 = .ok (.iload_n 0, 1) := by decide +kernel
theorem dX5_commonDivisor_13 : decode cX5_commonDivisor 13 = .ok (.iload_n 1, 1) := by decide +kernel
theorem dX5_commonDivisor_14 : decode cX5_commonDivisor 14 = .ok (.irem, 1) := by decide +kernel
theorem dX5_commonDivisor_15 : decode cX5_commonDivisor 15 = .ok (.istore_n 3, 1) := by decide +kernel
theorem dX5_commonDivisor_16 : decode cX5_commonDivisor 16 = .ok (.iload_n 1, 1) := by decide +kernel
theorem dX5_commonDivisor_17 : decode cX5_commonDivisor 17 = .ok (.istore_n 0, 1) := by decide +kernel
theorem dX5_commonDivisor_18 : decode cX5_commonDivisor 18 = .ok (.iload_n 3, 1) := by decide +kernel
theorem dX5_commonDivisor_19 : decode cX5_commonDivisor 19 = .ok (.istore_n 1, 1) := by decide +kernel
theorem dX5_commonDivisor_20 : decode cX5_commonDivisor 20 = .ok (.iinc 2 1, 3) := by decide +kernel
theorem dX5_commonDivisor_23 : decode cX5_commonDivisor 23 = .ok (.goto (-21), 3) := by decide +kernel
theorem dX5_commonDivisor_26 : decode cX5_commonDivisor 26 = .ok (.iload_n 0, 1) := by decide +kernel
theorem dX5_commonDivisor_27 : decode cX5_commonDivisor 27 = .ok (.ireturn, 1) := by decide +kernel
theorem dX5_newestTown_0 : decode cX5_newestTown 0 = .ok (.aload_n 0, 1) := by decide +kernel
theorem dX5_newestTown_1 : decode cX5_newestTown 1 = .ok (.getfield 12, 3) := by decide +kernel
theorem dX5_newestTown_4 : decode cX5_newestTown 4 = .ok (.getfield 67, 3) := by decide +kernel
theorem dX5_newestTown_7 : decode cX5_newestTown 7 = .ok (.iconst 1, 1) := by decide +kernel
theorem dX5_newestTown_8 : decode cX5_newestTown 8 = .ok (.isub, 1) := by decide +kernel
theorem dX5_newestTown_9 : decode cX5_newestTown 9 = .ok (.istore_n 1, 1) := by decide +kernel
theorem dX5_newestTown_10 : decode cX5_newestTown 10 = .ok (.iload_n 1, 1) := by decide +kernel
theorem dX5_newestTown_11 : decode cX5_newestTown 11 = .ok (.ifCond .lt 21, 3) := by decide +kernel
theorem dX5_newestTown_14 : decode cX5_newestTown 14 = .ok (.iload_n 1, 1) := by decide +kernel
theorem dX5_newestTown_15 : decode cX5_newestTown 15 = .ok (.aload_n 0, 1) := by decide +kernel
theorem dX5_newestTown_16 : decode cX5_newestTown 16 = .ok (.getfield 26, 3) := by decide +kernel
theorem dX5_newestTown_19 : decode cX5_newestTown 19 = .ok (.arraylength, 1) := by decide +kernel
theorem dX5_newestTown_20 : decode cX5_newestTown 20 = .ok (.if_icmp .ge 12, 3) := by decide +kernel
theorem dX5_newestTown_23 : decode cX5_newestTown 23 = .ok (.aload_n 0, 1) := by decide +kernel
theorem dX5_newestTown_24 : decode cX5_newestTown 24 = .ok (.getfield 26, 3) := by decide +kernel
theorem dX5_newestTown_27 : decode cX5_newestTown 27 = .ok (.iload_n 1, 1) := by decide +kernel
theorem dX5_newestTown_28 : decode cX5_newestTown 28 = .ok (.aaload, 1) := by decide +kernel
theorem dX5_newestTown_29 : decode cX5_newestTown 29 = .ok (.ifnonnull 8, 3) := by decide +kernel
theorem dX5_newestTown_32 : decode cX5_newestTown 32 = .ok (.aload_n 0, 1) := by decide +kernel
theorem dX5_newestTown_33 : decode cX5_newestTown 33 = .ok (.getfield 22, 3) := by decide +kernel
theorem dX5_newestTown_36 : decode cX5_newestTown 36 = .ok (.areturn, 1) := by decide +kernel
theorem dX5_newestTown_37 : decode cX5_newestTown 37 = .ok (.aload_n 0, 1) := by decide +kernel
theorem dX5_newestTown_38 : decode cX5_newestTown 38 = .ok (.getfield 26, 3) := by decide +kernel
theorem dX5_newestTown_41 : decode cX5_newestTown 41 = .ok (.iload_n 1, 1) := by decide +kernel
theorem dX5_newestTown_42 : decode cX5_newestTown 42 = .ok (.aaload, 1) := by decide +kernel
theorem dX5_newestTown_43 : decode cX5_newestTown 43 = .ok (.areturn, 1) := by decide +kernel
theorem dX5_forgetTowns_0 : decode cX5_forgetTowns 0 = .ok (.aload_n 0, 1) := by decide +kernel
theorem dX5_forgetTowns_1 : decode cX5_forgetTowns 1 = .ok (.getfield 39, 3) := by decide +kernel
theorem dX5_forgetTowns_4 : decode cX5_forgetTowns 4 = .ok (.invokevirtual 256, 3) := by decide +kernel
theorem dX5_forgetTowns_7 : decode cX5_forgetTowns 7 = .ok (.aload_n 0, 1) := by decide +kernel
theorem dX5_forgetTowns_8 : decode cX5_forgetTowns 8 = .ok (.getfield 46, 3) := by decide +kernel
theorem dX5_forgetTowns_11 : decode cX5_forgetTowns 11 = .ok (.invokevirtual 256, 3) := by decide +kernel
theorem dX5_forgetTowns_14 : decode cX5_forgetTowns 14 = .ok (.return_, 1) := by decide +kernel
theorem dX5_searchNow_0 : decode cX5_searchNow 0 = .ok (.aload_n 0, 1) := by decide +kernel
theorem dX5_searchNow_1 : decode cX5_searchNow 1 = .ok (.getfield 39, 3) := by decide +kernel
theorem dX5_searchNow_4 : decode cX5_searchNow 4 = .ok (.aload_n 0, 1) := by decide +kernel
theorem dX5_searchNow_5 : decode cX5_searchNow 5 = .ok (.invokevirtual 76, 3) := by decide +kernel
theorem dX5_searchNow_8 : decode cX5_searchNow 8 = .ok (.invokevirtual 123, 3) := by decide +kernel
theorem dX5_searchNow_11 : decode cX5_searchNow 11 = .ok (.aload_n 0, 1) := by decide +kernel
theorem dX5_searchNow_12 : decode cX5_searchNow 12 = .ok (.getfield 39, 3) := by decide +kernel
theorem dX5_searchNow_15 : decode cX5_searchNow 15 = .ok (.invokevirtual 259, 3) := by decide +kernel
theorem dX5_searchNow_18 : decode cX5_searchNow 18 = .ok (.return_, 1) := by decide +kernel
theorem dX5_searchThen_0 : decode cX5_searchThen 0 = .ok (.aload_n 0, 1) := by decide +kernel
theorem dX5_searchThen_1 : decode cX5_searchThen 1 = .ok (.getfield 46, 3) := by decide +kernel
theorem dX5_searchThen_4 : decode cX5_searchThen 4 = .ok (.invokevirtual 93, 3) := by decide +kernel
theorem dX5_searchThen_7 : decode cX5_searchThen 7 = .ok (.aload_n 0, 1) := by decide +kernel
theorem dX5_searchThen_8 : decode cX5_searchThen 8 = .ok (.getfield 46, 3) := by decide +kernel
theorem dX5_searchThen_11 : decode cX5_searchThen 11 = .ok (.aload_n 0, 1) := by decide +kernel
theorem dX5_searchThen_12 : decode cX5_searchThen 12 = .ok (.invokevirtual 76, 3) := by decide +kernel
theorem dX5_searchThen_15 : decode cX5_searchThen 15 = .ok (.invokevirtual 123, 3) := by decide +kernel
theorem dX5_searchThen_18 : decode cX5_searchThen 18 = .ok (.aload_n 0, 1) := by decide +kernel
theorem dX5_searchThen_19 : decode cX5_searchThen 19 = .ok (.getfield 46, 3) := by decide +kernel
theorem dX5_searchThen_22 : decode cX5_searchThen 22 = .ok (.invokevirtual 259, 3) := by decide +kernel
theorem dX5_searchThen_25 : decode cX5_searchThen 25 = .ok (.return_, 1) := by decide +kernel
theorem dX5_placeOnPath_0 : decode cX5_placeOnPath 0 = .ok (.iconst 0, 1) := by decide +kernel
theorem dX5_placeOnPath_1 : decode cX5_placeOnPath 1 = .ok (.istore_n 3, 1) := by decide +kernel
theorem dX5_placeOnPath_2 : decode cX5_placeOnPath 2 = .ok (.iload_n 3, 1) := by decide +kernel
theorem dX5_placeOnPath_3 : decode cX5_placeOnPath 3 = .ok (.iload_n 2, 1) := by decide +kernel
theorem dX5_placeOnPath_4 : decode cX5_placeOnPath 4 = .ok (.if_icmp .ge 30, 3) := by decide +kernel
theorem dX5_placeOnPath_7 : decode cX5_placeOnPath 7 = .ok (.iload_n 3, 1) := by decide +kernel
theorem dX5_placeOnPath_8 : decode cX5_placeOnPath 8 = .ok (.aload_n 0, 1) := by decide +kernel
theorem dX5_placeOnPath_9 : decode cX5_placeOnPath 9 = .ok (.getfield 49, 3) := by decide +kernel
theorem dX5_placeOnPath_12 : decode cX5_placeOnPath 12 = .ok (.arraylength, 1) := by decide +kernel
theorem dX5_placeOnPath_13 : decode cX5_placeOnPath 13 = .ok (.if_icmp .ge 21, 3) := by decide +kernel
theorem dX5_placeOnPath_16 : decode cX5_placeOnPath 16 = .ok (.aload_n 0, 1) := by decide +kernel
theorem dX5_placeOnPath_17 : decode cX5_placeOnPath 17 = .ok (.getfield 49, 3) := by decide +kernel
theorem dX5_placeOnPath_20 : decode cX5_placeOnPath 20 = .ok (.iload_n 3, 1) := by decide +kernel
theorem dX5_placeOnPath_21 : decode cX5_placeOnPath 21 = .ok (.iaload, 1) := by decide +kernel
theorem dX5_placeOnPath_22 : decode cX5_placeOnPath 22 = .ok (.iload_n 1, 1) := by decide +kernel
theorem dX5_placeOnPath_23 : decode cX5_placeOnPath 23 = .ok (.if_icmp .ne 5, 3) := by decide +kernel
theorem dX5_placeOnPath_26 : decode cX5_placeOnPath 26 = .ok (.iload_n 3, 1) := by decide +kernel
theorem dX5_placeOnPath_27 : decode cX5_placeOnPath 27 = .ok (.ireturn, 1) := by decide +kernel
theorem dX5_placeOnPath_28 : decode cX5_placeOnPath 28 = .ok (.iinc 3 1, 3) := by decide +kernel
theorem dX5_placeOnPath_31 : decode cX5_placeOnPath 31 = .ok (.goto (-29), 3) := by decide +kernel
theorem dX5_placeOnPath_34 : decode cX5_placeOnPath 34 = .ok (.bipush (-5), 2) := by decide +kernel
theorem dX5_placeOnPath_36 : decode cX5_placeOnPath 36 = .ok (.ireturn, 1) := by decide +kernel
theorem dX5_tellThen_0 : decode cX5_tellThen 0 = .ok (.aload_n 0, 1) := by decide +kernel
theorem dX5_tellThen_1 : decode cX5_tellThen 1 = .ok (.getfield 46, 3) := by decide +kernel
theorem dX5_tellThen_4 : decode cX5_tellThen 4 = .ok (.getfield 187, 3) := by decide +kernel
theorem dX5_tellThen_7 : decode cX5_tellThen 7 = .ok (.aload_n 0, 1) := by decide +kernel
theorem dX5_tellThen_8 : decode cX5_tellThen 8 = .ok (.getfield 12, 3) := by decide +kernel
theorem dX5_tellThen_11 : decode cX5_tellThen 11 = .ok (.getfield 32, 3) := by decide +kernel
theorem dX5_tellThen_14 : decode cX5_tellThen 14 = .ok (.invokevirtual 188, 3) := by decide +kernel
theorem dX5_tellThen_17 : decode cX5_tellThen 17 = .ok (.iconst 0, 1) := by decide +kernel
theorem dX5_tellThen_18 : decode cX5_tellThen 18 = .ok (.istore_n 2, 1) := by decide +kernel
theorem dX5_tellThen_19 : decode cX5_tellThen 19 = .ok (.iload_n 2, 1) := by decide +kernel
theorem dX5_tellThen_20 : decode cX5_tellThen 20 = .ok (.aload_n 0, 1) := by decide +kernel
theorem dX5_tellThen_21 : decode cX5_tellThen 21 = .ok (.getfield 12, 3) := by decide +kernel
theorem dX5_tellThen_24 : decode cX5_tellThen 24 = .ok (.getfield 32, 3) := by decide +kernel
theorem dX5_tellThen_27 : decode cX5_tellThen 27 = .ok (.getfield 205, 3) := by decide +kernel
theorem dX5_tellThen_30 : decode cX5_tellThen 30 = .ok (.if_icmp .ge 55, 3) := by decide +kernel
theorem dX5_tellThen_33 : decode cX5_tellThen 33 = .ok (.iload_n 1, 1) := by decide +kernel
theorem dX5_tellThen_34 : decode cX5_tellThen 34 = .ok (.iload_n 2, 1) := by decide +kernel
theorem dX5_tellThen_35 : decode cX5_tellThen 35 = .ok (.invokestatic 137, 3) := by decide +kernel
theorem dX5_tellThen_38 : decode cX5_tellThen 38 = .ok (.iconst 1, 1) := by decide +kernel
theorem dX5_tellThen_39 : decode cX5_tellThen 39 = .ok (.if_icmp .ne 40, 3) := by decide +kernel
theorem dX5_tellThen_42 : decode cX5_tellThen 42 = .ok (.aload_n 0, 1) := by decide +kernel
theorem dX5_tellThen_43 : decode cX5_tellThen 43 = .ok (.getfield 46, 3) := by decide +kernel
theorem dX5_tellThen_46 : decode cX5_tellThen 46 = .ok (.getfield 187, 3) := by decide +kernel
theorem dX5_tellThen_49 : decode cX5_tellThen 49 = .ok (.getfield 100, 3) := by decide +kernel
theorem dX5_tellThen_52 : decode cX5_tellThen 52 = .ok (.iload_n 2, 1) := by decide +kernel
theorem dX5_tellThen_53 : decode cX5_tellThen 53 = .ok (.bipush 6, 2) := by decide +kernel
theorem dX5_tellThen_55 : decode cX5_tellThen 55 = .ok (.iastore, 1) := by decide +kernel
theorem dX5_tellThen_56 : decode cX5_tellThen 56 = .ok (.aload_n 0, 1) := by decide +kernel
theorem dX5_tellThen_57 : decode cX5_tellThen 57 = .ok (.getfield 46, 3) := by decide +kernel
theorem dX5_tellThen_60 : decode cX5_tellThen 60 = .ok (.getfield 187, 3) := by decide +kernel
theorem dX5_tellThen_63 : decode cX5_tellThen 63 = .ok (.getfield 106, 3) := by decide +kernel
theorem dX5_tellThen_66 : decode cX5_tellThen 66 = .ok (.iload_n 2, 1) := by decide +kernel
theorem dX5_tellThen_67 : decode cX5_tellThen 67 = .ok (.iload_n 2, 1) := by decide +kernel
theorem dX5_tellThen_68 : decode cX5_tellThen 68 = .ok (.aload_n 0, 1) := by decide +kernel
theorem dX5_tellThen_69 : decode cX5_tellThen 69 = .ok (.getfield 39, 3) := by decide +kernel
theorem dX5_tellThen_72 : decode cX5_tellThen 72 = .ok (.getfield 164, 3) := by decide +kernel
theorem dX5_tellThen_75 : decode cX5_tellThen 75 = .ok (.invokestatic 217, 3) := by decide +kernel
theorem dX5_tellThen_78 : decode cX5_tellThen 78 = .ok (.iastore, 1) := by decide +kernel
theorem dX5_tellThen_79 : decode cX5_tellThen 79 = .ok (.iinc 2 1, 3) := by decide +kernel
theorem dX5_tellThen_82 : decode cX5_tellThen 82 = .ok (.goto (-63), 3) := by decide +kernel
theorem dX5_tellThen_85 : decode cX5_tellThen 85 = .ok (.return_, 1) := by decide +kernel
theorem dX5_wouldRather_0 : decode cX5_wouldRather 0 = .ok (.aload_n 0, 1) := by decide +kernel
theorem dX5_wouldRather_1 : decode cX5_wouldRather 1 = .ok (.getfield 46, 3) := by decide +kernel
theorem dX5_wouldRather_4 : decode cX5_wouldRather 4 = .ok (.getfield 155, 3) := by decide +kernel
theorem dX5_wouldRather_7 : decode cX5_wouldRather 7 = .ok (.ifCond .ne 5, 3) := by decide +kernel
theorem dX5_wouldRather_10 : decode cX5_wouldRather 10 = .ok (.iconst 0, 1) := by decide +kernel
theorem dX5_wouldRather_11 : decode cX5_wouldRather 11 = .ok (.ireturn, 1) := by decide +kernel
theorem dX5_wouldRather_12 : decode cX5_wouldRather 12 = .ok (.aload_n 0, 1) := by decide +kernel
theorem dX5_wouldRather_13 : decode cX5_wouldRather 13 = .ok (.getfield 39, 3) := by decide +kernel
theorem dX5_wouldRather_16 : decode cX5_wouldRather 16 = .ok (.getfield 155, 3) := by decide +kernel
theorem dX5_wouldRather_19 : decode cX5_wouldRather 19 = .ok (.ifCond .eq 19, 3) := by decide +kernel
theorem dX5_wouldRather_22 : decode cX5_wouldRather 22 = .ok (.aload_n 0, 1) := by decide +kernel
theorem dX5_wouldRather_23 : decode cX5_wouldRather 23 = .ok (.iload_n 1, 1) := by decide +kernel
theorem dX5_wouldRather_24 : decode cX5_wouldRather 24 = .ok (.invokevirtual 262, 3) := by decide +kernel
theorem dX5_wouldRather_27 : decode cX5_wouldRather 27 = .ok (.ifCond .eq 15, 3) := by decide +kernel
theorem dX5_wouldRather_30 : decode cX5_wouldRather 30 = .ok (.aload_n 0, 1) := by decide +kernel
theorem dX5_wouldRather_31 : decode cX5_wouldRather 31 = .ok (.iload_n 2, 1) := by decide +kernel
theorem dX5_wouldRather_32 : decode cX5_wouldRather 32 = .ok (.invokevirtual 262, 3) := by decide +kernel
theorem dX5_wouldRather_35 : decode cX5_wouldRather 35 = .ok (.ifCond .eq 7, 3) := by decide +kernel
theorem dX5_wouldRather_38 : decode cX5_wouldRather 38 = .ok (.iconst 1, 1) := by decide +kernel
theorem dX5_wouldRather_39 : decode cX5_wouldRather 39 = .ok (.goto 4, 3) := by decide +kernel
theorem dX5_wouldRather_42 : decode cX5_wouldRather 42 = .ok (.iconst 0, 1) := by decide +kernel
theorem dX5_wouldRather_43 : decode cX5_wouldRather 43 = .ok (.ireturn, 1) := by decide +kernel
theorem dX5_isBetterThen_0 : decode cX5_isBetterThen 0 = .ok (.aload_n 0, 1) := by decide +kernel
theorem dX5_isBetterThen_1 : decode cX5_isBetterThen 1 = .ok (.getfield 46, 3) := by decide +kernel
theorem dX5_isBetterThen_4 : decode cX5_isBetterThen 4 = .ok (.iload_n 1, 1) := by decide +kernel
theorem dX5_isBetterThen_5 : decode cX5_isBetterThen 5 = .ok (.aload_n 0, 1) := by decide +kernel
theorem dX5_isBetterThen_6 : decode cX5_isBetterThen 6 = .ok (.getfield 46, 3) := by decide +kernel
theorem dX5_isBetterThen_9 : decode cX5_isBetterThen 9 = .ok (.iload_n 1, 1) := by decide +kernel
theorem dX5_isBetterThen_10 : decode cX5_isBetterThen 10 = .ok (.aload_n 0, 1) := by decide +kernel
theorem dX5_isBetterThen_11 : decode cX5_isBetterThen 11 = .ok (.getfield 46, 3) := by decide +kernel
theorem dX5_isBetterThen_14 : decode cX5_isBetterThen 14 = .ok (.getfield 164, 3) := by decide +kernel
theorem dX5_isBetterThen_17 : decode cX5_isBetterThen 17 = .ok (.invokevirtual 127, 3) := by decide +kernel
theorem dX5_isBetterThen_20 : decode cX5_isBetterThen 20 = .ok (.invokevirtual 140, 3) := by decide +kernel
theorem dX5_isBetterThen_23 : decode cX5_isBetterThen 23 = .ok (.istore_n 2, 1) := by decide +kernel
theorem dX5_isBetterThen_24 : decode cX5_isBetterThen 24 = .ok (.iload_n 2, 1) := by decide +kernel
theorem dX5_isBetterThen_25 : decode cX5_isBetterThen 25 = .ok (.aload_n 0, 1) := by decide +kernel
theorem dX5_isBetterThen_26 : decode cX5_isBetterThen 26 = .ok (.getfield 39, 3) := by decide +kernel
theorem dX5_isBetterThen_29 : decode cX5_isBetterThen 29 = .ok (.iload_n 1, 1) := by decide +kernel
theorem dX5_isBetterThen_30 : decode cX5_isBetterThen 30 = .ok (.aload_n 0, 1) := by decide +kernel
theorem dX5_isBetterThen_31 : decode cX5_isBetterThen 31 = .ok (.getfield 39, 3) := by decide +kernel
theorem dX5_isBetterThen_34 : decode cX5_isBetterThen 34 = .ok (.iload_n 1, 1) := by decide +kernel
theorem dX5_isBetterThen_35 : decode cX5_isBetterThen 35 = .ok (.aload_n 0, 1) := by decide +kernel
theorem dX5_isBetterThen_36 : decode cX5_isBetterThen 36 = .ok (.getfield 39, 3) := by decide +kernel
theorem dX5_isBetterThen_39 : decode cX5_isBetterThen 39 = .ok (.getfield 164, 3) := by decide +kernel
theorem dX5_isBetterThen_42 : decode cX5_isBetterThen 42 = .ok (.invokevirtual 127, 3) := by decide +kernel
theorem dX5_isBetterThen_45 : decode cX5_isBetterThen 45 = .ok (.invokevirtual 140, 3) := by decide +kernel
theorem dX5_isBetterThen_48 : decode cX5_isBetterThen 48 = .ok (.if_icmp .le 7, 3) := by decide +kernel
theorem dX5_isBetterThen_51 : decode cX5_isBetterThen 51 = .ok (.iconst 1, 1) := by decide +kernel
theorem dX5_isBetterThen_52 : decode cX5_isBetterThen 52 = .ok (.goto 4, 3) := by decide +kernel
theorem dX5_isBetterThen_55 : decode cX5_isBetterThen 55 = .ok (.iconst 0, 1) := by decide +kernel
theorem dX5_isBetterThen_56 : decode cX5_isBetterThen 56 = .ok (.ireturn, 1) := by decide +kernel
end CDC
