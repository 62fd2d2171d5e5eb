theorem dX7_needFor_8 : decode cX7_needFor 8 = .ok (.iconst 0, 1) := by decide +kernel
theorem dX7_needFor_9 : decode cX7_needFor 9 = .ok (.ireturn, 1) := by decide +kernel
theorem dX7_needFor_10 : decode cX7_needFor 10 = .ok (.iload_n 0, 1) := by decide +kernel
theorem dX7_needFor_11 : decode cX7_needFor 11 = .ok (.iload_n 2, 1) := by decide +kernel
theorem dX7_needFor_12 : decode cX7_needFor 12 = .ok (.iadd, 1) := by decide +kernel
theorem dX7_needFor_13 : decode cX7_needFor 13 = .ok (.iconst 1, 1) := by decide +kernel
theorem dX7_needFor_14 : decode cX7_needFor 14 = .ok (.isub, 1) := by decide +kernel
theorem dX7_needFor_15 : decode cX7_needFor 15 = .ok (.iload_n 2, 1) := by decide +kernel
theorem dX7_needFor_16 : decode cX7_needFor 16 = .ok (.idiv, 1) := by decide +kernel
theorem dX7_needFor_17 : decode cX7_needFor 17 = .ok (.ireturn, 1) := by decide +kernel
theorem dX8_init_0 : decode cX8_init 0 = .ok (.aload_n 0, 1) := by decide +kernel
theorem dX8_init_1 : decode cX8_init 1 = .ok (.invokespecial 1, 3) := by decide +kernel
theorem dX8_init_4 : decode cX8_init 4 = .ok (.aload_n 0, 1) := by decide +kernel
theorem dX8_init_5 : decode cX8_init 5 = .ok (.bipush 24, 2) := by decide +kernel
theorem dX8_init_7 : decode cX8_init 7 = .ok (.newarray .int, 2) := by decide +kernel
theorem dX8_init_9 : decode cX8_init 9 = .ok (.putfield 7, 3) := by decide +kernel
theorem dX8_init_12 : decode cX8_init 12 = .ok (.aload_n 0, 1) := by decide +kernel
theorem dX8_init_13 : decode cX8_init 13 = .ok (.bipush 24, 2) := by decide +kernel
theorem dX8_init_15 : decode cX8_init 15 = .ok (.newarray .int, 2) := by decide +kernel
theorem dX8_init_17 : decode cX8_init 17 = .ok (.putfield 13, 3) := by decide +kernel
theorem dX8_init_20 : decode cX8_init 20 = .ok (.aload_n 0, 1) := by decide +kernel
theorem dX8_init_21 : decode cX8_init 21 = .ok (.bipush 24, 2) := by decide +kernel
theorem dX8_init_23 : decode cX8_init 23 = .ok (.newarray .int, 2) := by decide +kernel
theorem dX8_init_25 : decode cX8_init 25 = .ok (.putfield 16, 3) := by decide +kernel
theorem dX8_init_28 : decode cX8_init 28 = .ok (.aload_n 0, 1) := by decide +kernel
theorem dX8_init_29 : decode cX8_init 29 = .ok (.bipush 24, 2) := by decide +kernel
theorem dX8_init_31 : decode cX8_init 31 = .ok (.newarray .int, 2) := by decide +kernel
theorem dX8_init_33 : decode cX8_init 33 = .ok (.putfield 19, 3) := by decide +kernel
theorem dX8_init_36 : decode cX8_init 36 = .ok (.aload_n 0, 1) := by decide +kernel
theorem dX8_init_37 : decode cX8_init 37 = .ok (.iconst (-1), 1) := by decide +kernel
theorem dX8_init_38 : decode cX8_init 38 = .ok (.putfield 22, 3) := by decide +kernel
theorem dX8_init_41 : decode cX8_init 41 = .ok (.aload_n 0, 1) := by decide +kernel
theorem dX8_init_42 : decode cX8_init 42 = .ok (.iconst (-1), 1) := by decide +kernel
theorem dX8_init_43 : decode cX8_init 43 = .ok (.putfield 26, 3) := by decide +kernel
theorem dX8_init_46 : decode cX8_init 46 = .ok (.aload_n 0, 1) := by decide +kernel
theorem dX8_init_47 : decode cX8_init 47 = .ok (.bipush 81, 2) := by decide +kernel
theorem dX8_init_49 : decode cX8_init 49 = .ok (.newarray .int, 2) := by decide +kernel
theorem dX8_init_51 : decode cX8_init 51 = .ok (.putfield 29, 3) := by decide +kernel
theorem dX8_init_54 : decode cX8_init 54 = .ok (.aload_n 0, 1) := by decide +kernel
theorem dX8_init_55 : decode cX8_init 55 = .ok (.bipush 12, 2) := by decide +kernel
theorem dX8_init_57 : decode cX8_init 57 = .ok (.newarray .int, 2) := by decide +kernel
theorem dX8_init_59 : decode cX8_init 59 = .ok (.putfield 32, 3) := by decide +kernel
theorem dX8_init_62 : decode cX8_init 62 = .ok (.aload_n 0, 1) := by decide +kernel
theorem dX8_init_63 : decode cX8_init 63 = .ok (.bipush 24, 2) := by decide +kernel
theorem dX8_init_65 : decode cX8_init 65 = .ok (.newarray .int, 2) := by decide +kernel
theorem dX8_init_67 : decode cX8_init 67 = .ok (.putfield 35, 3) := by decide +kernel
theorem dX8_init_70 : decode cX8_init 70 = .ok (.aload_n 0, 1) := by decide +kernel
theorem dX8_init_71 : decode cX8_init 71 = .ok (.bipush 24, 2) := by decide +kernel
theorem dX8_init_73 : decode cX8_init 73 = .ok (.newarray .int, 2) := by decide +kernel
theorem dX8_init_75 : decode cX8_init 75 = .ok (.putfield 38, 3) := by decide +kernel
theorem dX8_init_78 : decode cX8_init 78 = .ok (.aload_n 0, 1) := by decide +kernel
theorem dX8_init_79 : decode cX8_init 79 = .ok (.bipush 24, 2) := by decide +kernel
theorem dX8_init_81 : decode cX8_init 81 = .ok (.newarray .int, 2) := by decide +kernel
theorem dX8_init_83 : decode cX8_init 83 = .ok (.putfield 41, 3) := by decide +kernel
theorem dX8_init_86 : decode cX8_init 86 = .ok (.aload_n 0, 1) := by decide +kernel
theorem dX8_init_87 : decode cX8_init 87 = .ok (.bipush 25, 2) := by decide +kernel
theorem dX8_init_89 : decode cX8_init 89 = .ok (.newarray .int, 2) := by decide +kernel
theorem dX8_init_91 : decode cX8_init 91 = .ok (.putfield 44, 3) := by decide +kernel
theorem dX8_init_94 : decode cX8_init 94 = .ok (.aload_n 0, 1) := by decide +kernel
theorem dX8_init_95 : decode cX8_init 95 = .ok (.bipush 24, 2) := by decide +kernel
theorem dX8_init_97 : decode cX8_init 97 = .ok (.newarray .int, 2) := by decide +kernel
theorem dX8_init_99 : decode cX8_init 99 = .ok (.putfield 47, 3) := by decide +kernel
theorem dX8_init_102 : decode cX8_init 102 = .ok (.aload_n 0, 1) := by decide +kernel
theorem dX8_init_103 : decode cX8_init 103 = .ok (.sipush 4352, 3) := by decide +kernel
theorem dX8_init_106 : decode cX8_init 106 = .ok (.newarray .boolean, 2) := by decide +kernel
theorem dX8_init_108 : decode cX8_init 108 = .ok (.putfield 50, 3) := by decide +kernel
theorem dX8_init_111 : decode cX8_init 111 = .ok (.aload_n 0, 1) := by decide +kernel
theorem dX8_init_112 : decode cX8_init 112 = .ok (.bipush 9, 2) := by decide +kernel
theorem dX8_init_114 : decode cX8_init 114 = .ok (.newarray .int, 2) := by decide +kernel
theorem dX8_init_116 : decode cX8_init 116 = .ok (.putfield 54, 3) := by decide +kernel
theorem dX8_init_119 : decode cX8_init 119 = .ok (.return_, 1) := by decide +kernel
theorem dX8_in_0 : decode cX8_in 0 = .ok (.iload_n 0, 1) := by decide +kernel
theorem dX8_in_1 : decode cX8_in 1 = .ok (.iload_n 1, 1) := by decide +kernel
theorem dX8_in_2 : decode cX8_in 2 = .ok (.if_icmp .lt 12, 3) := by decide +kernel
theorem dX8_in_5 : decode cX8_in 5 = .ok (.iload_n 0, 1) := by decide +kernel
theorem dX8_in_6 : decode cX8_in 6 = .ok (.iload_n 2, 1) := by decide +kernel
theorem dX8_in_7 : decode cX8_in 7 = .ok (.if_icmp .gt 7, 3) := by decide +kernel
theorem dX8_in_10 : decode cX8_in 10 = .ok (.iconst 1, 1) := by decide +kernel
theorem dX8_in_11 : decode cX8_in 11 = .ok (.goto 4, 3) := by decide +kernel
theorem dX8_in_14 : decode cX8_in 14 = .ok (.iconst 0, 1) := by decide +kernel
theorem dX8_in_15 : decode cX8_in 15 = .ok (.ireturn, 1) := by decide +kernel
theorem dX8_isRoad_0 : decode cX8_isRoad 0 = .ok (.iload_n 1, 1) := by decide +kernel
theorem dX8_isRoad_1 : decode cX8_isRoad 1 = .ok (.iconst 0, 1) := by decide +kernel
theorem dX8_isRoad_2 : decode cX8_isRoad 2 = .ok (.aload_n 0, 1) := by decide +kernel
theorem dX8_isRoad_3 : decode cX8_isRoad 3 = .ok (.getfield 57, 3) := by decide +kernel
theorem dX8_isRoad_6 : decode cX8_isRoad 6 = .ok (.iconst 1, 1) := by decide +kernel
theorem dX8_isRoad_7 : decode cX8_isRoad 7 = .ok (.isub, 1) := by decide +kernel
theorem dX8_isRoad_8 : decode cX8_isRoad 8 = .ok (.invokestatic 60, 3) := by decide +kernel
theorem dX8_isRoad_11 : decode cX8_isRoad 11 = .ok (.ireturn, 1) := by decide +kernel
theorem dX8_ends_0 : decode cX8_ends 0 = .ok (.aload_n 0, 1) := by decide +kernel
theorem dX8_ends_1 : decode cX8_ends 1 = .ok (.getfield 7, 3) := by decide +kernel
theorem dX8_ends_4 : decode cX8_ends 4 = .ok (.iload_n 1, 1) := by decide +kernel
theorem dX8_ends_5 : decode cX8_ends 5 = .ok (.iaload, 1) := by decide +kernel
theorem dX8_ends_6 : decode cX8_ends 6 = .ok (.iload_n 2, 1) := by decide +kernel
theorem dX8_ends_7 : decode cX8_ends 7 = .ok (.if_icmp .eq 13, 3) := by decide +kernel
theorem dX8_ends_10 : decode cX8_ends 10 = .ok (.aload_n 0, 1) := by decide +kernel
theorem dX8_ends_11 : decode cX8_ends 11 = .ok (.getfield 13, 3) := by decide +kernel
theorem dX8_ends_14 : decode cX8_ends 14 = .ok (.iload_n 1, 1) := by decide +kernel
theorem dX8_ends_15 : decode cX8_ends 15 = .ok (.iaload, 1) := by decide +kernel
theorem dX8_ends_16 : decode cX8_ends 16 = .ok (.iload_n 2, 1) := by decide +kernel
theorem dX8_ends_17 : decode cX8_ends 17 = .ok (.if_icmp .ne 7, 3) := by decide +kernel
theorem dX8_ends_20 : decode cX8_ends 20 = .ok (.iconst 1, 1) := by decide +kernel
theorem dX8_ends_21 : decode cX8_ends 21 = .ok (.goto 4, 3) := by decide +kernel
theorem dX8_ends_24 : decode cX8_ends 24 = .ok (.iconst 0, 1) := by decide +kernel
theorem dX8_ends_25 : decode cX8_ends 25 = .ok (.ireturn, 1) := by decide +kernel
theorem dX8_meet_0 : decode cX8_meet 0 = .ok (.aload_n 0, 1) := by decide +kernel
theorem dX8_meet_1 : decode cX8_meet 1 = .ok (.iload_n 1, 1) := by decide +kernel
theorem dX8_meet_2 : decode cX8_meet 2 = .ok (.aload_n 0, 1) := by decide +kernel
theorem dX8_meet_3 : decode cX8_meet 3 = .ok (.getfield 7, 3) := by decide +kernel
theorem dX8_meet_6 : decode cX8_meet 6 = .ok (.iload_n 2, 1) := by decide +kernel
theorem dX8_meet_7 : decode cX8_meet 7 = .ok (.iaload, 1) := by decide +kernel
theorem dX8_meet_8 : decode cX8_meet 8 = .ok (.invokevirtual 64, 3) := by decide +kernel
theorem dX8_meet_11 : decode cX8_meet 11 = .ok (.ifCond .ne 17, 3) := by decide +kernel
theorem dX8_meet_14 : decode cX8_meet 14 = .ok (.aload_n 0, 1) := by decide +kernel
theorem dX8_meet_15 : decode cX8_meet 15 = .ok (.iload_n 1, 1) := by decide +kernel
theorem dX8_meet_16 : decode cX8_meet 16 = .ok (.aload_n 0, 1) := by decide +kernel
theorem dX8_meet_17 : decode cX8_meet 17 = .ok (.getfield 13, 3) := by decide +kernel
theorem dX8_meet_20 : decode cX8_meet 20 = .ok (.iload_n 2, 1) := by decide +kernel
theorem dX8_meet_21 : decode cX8_meet 21 = .ok (.iaload, 1) := by decide +kernel
theorem dX8_meet_22 : decode cX8_meet 22 = .ok (.invokevirtual 64, 3) := by decide +kernel
theorem dX8_meet_25 : decode cX8_meet 25 = .ok (.ifCond .eq 7, 3) := by decide +kernel
theorem dX8_meet_28 : decode cX8_meet 28 = .ok (.iconst 1, 1) := by decide +kernel
theorem dX8_meet_29 : decode cX8_meet 29 = .ok (.goto 4, 3) := by decide +kernel
theorem dX8_meet_32 : decode cX8_meet 32 = .ok (.iconst 0, 1) := by decide +kernel
theorem dX8_meet_33 : decode cX8_meet 33 = .ok (.ireturn, 1) := by decide +kernel
theorem dX8_post_0 : decode cX8_post 0 = .ok (.aload_n 0, 1) := by decide +kernel
theorem dX8_post_1 : decode cX8_post 1 = .ok (.getfield 68, 3) := by decide +kernel
theorem dX8_post_4 : decode cX8_post 4 = .ok (.bipush 12, 2) := by decide +kernel
theorem dX8_post_6 : decode cX8_post 6 = .ok (.if_icmp .ne 6, 3) := by decide +kernel
theorem dX8_post_9 : decode cX8_post 9 = .ok (.bipush (-2), 2) := by decide +kernel
theorem dX8_post_11 : decode cX8_post 11 = .ok (.ireturn, 1) := by decide +kernel
theorem dX8_post_12 : decode cX8_post 12 = .ok (.aload_n 0, 1) := by decide +kernel
theorem dX8_post_13 : decode cX8_post 13 = .ok (.dup, 1) := by decide +kernel
theorem dX8_post_14 : decode cX8_post 14 = .ok (.getfield 68, 3) := by decide +kernel
theorem dX8_post_17 : decode cX8_post 17 = .ok (.iconst 1, 1) := by decide +kernel
theorem dX8_post_18 : decode cX8_post 18 = .ok (.iadd, 1) := by decide +kernel
theorem dX8_post_19 : decode cX8_post 19 = .ok (.putfield 68, 3) := by decide +kernel
theorem dX8_post_22 : decode cX8_post 22 = .ok (.aload_n 0, 1) := by decide +kernel
theorem dX8_post_23 : decode cX8_post 23 = .ok (.getfield 68, 3) := by decide +kernel
theorem dX8_post_26 : decode cX8_post 26 = .ok (.iconst 1, 1) := by decide +kernel
theorem dX8_post_27 : decode cX8_post 27 = .ok (.isub, 1) := by decide +kernel
theorem dX8_post_28 : decode cX8_post 28 = .ok (.ireturn, 1) := by decide +kernel
theorem dX8_road_0 : decode cX8_road 0 = .ok (.iload_n 1, 1) := by decide +kernel
theorem dX8_road_1 : decode cX8_road 1 = .ok (.iconst 0, 1) := by decide +kernel
theorem dX8_road_2 : decode cX8_road 2 = .ok (.aload_n 0, 1) := by decide +kernel
theorem dX8_road_3 : decode cX8_road 3 = .ok (.getfield 68, 3) := by decide +kernel
theorem dX8_road_6 : decode cX8_road 6 = .ok (.iconst 1, 1) := by decide +kernel
theorem dX8_road_7 : decode cX8_road 7 = .ok (.isub, 1) := by decide +kernel
theorem dX8_road_8 : decode cX8_road 8 = .ok (.invokestatic 60, 3) := by decide +kernel
theorem dX8_road_11 : decode cX8_road 11 = .ok (.ifCond .eq 31, 3) := by decide +kernel
theorem dX8_road_14 : decode cX8_road 14 = .ok (.iload_n 2, 1) := by decide +kernel
theorem dX8_road_15 : decode cX8_road 15 = .ok (.iconst 0, 1) := by decide +kernel
theorem dX8_road_16 : decode cX8_road 16 = .ok (.aload_n 0, 1) := by decide +kernel
theorem dX8_road_17 : decode cX8_road 17 = .ok (.getfield 68, 3) := by decide +kernel
theorem dX8_road_20 : decode cX8_road 20 = .ok (.iconst 1, 1) := by decide +kernel
theorem dX8_road_21 : decode cX8_road 21 = .ok (.isub, 1) := by decide +kernel
theorem dX8_road_22 : decode cX8_road 22 = .ok (.invokestatic 60, 3) := by decide +kernel
theorem dX8_road_25 : decode cX8_road 25 = .ok (.ifCond .eq 17, 3) := by decide +kernel
theorem dX8_road_28 : decode cX8_road 28 = .ok (.iload_n 1, 1) := by decide +kernel
theorem dX8_road_29 : decode cX8_road 29 = .ok (.iload_n 2, 1) := by decide +kernel
theorem dX8_road_30 : decode cX8_road 30 = .ok (.if_icmp .eq 12, 3) := by decide +kernel
theorem dX8_road_33 : decode cX8_road 33 = .ok (.aload_n 0, 1) := by decide +kernel
theorem dX8_road_34 : decode cX8_road 34 = .ok (.getfield 57, 3) := by decide +kernel
theorem dX8_road_37 : decode cX8_road 37 = .ok (.bipush 24, 2) := by decide +kernel
theorem dX8_road_39 : decode cX8_road 39 = .ok (.if_icmp .ne 6, 3) := by decide +kernel
theorem dX8_road_42 : decode cX8_road 42 = .ok (.bipush (-2), 2) := by decide +kernel
theorem dX8_road_44 : decode cX8_road 44 = .ok (.ireturn, 1) := by decide +kernel
theorem dX8_road_45 : decode cX8_road 45 = .ok (.aload_n 0, 1) := by decide +kernel
theorem dX8_road_46 : decode cX8_road 46 = .ok (.getfield 7, 3) := by decide +kernel
theorem dX8_road_49 : decode cX8_road 49 = .ok (.aload_n 0, 1) := by decide +kernel
theorem dX8_road_50 : decode cX8_road 50 = .ok (.getfield 57, 3) := by decide +kernel
theorem dX8_road_53 : decode cX8_road 53 = .ok (.iload_n 1, 1) := by decide +kernel
theorem dX8_road_54 : decode cX8_road 54 = .ok (.iastore, 1) := by decide +kernel
theorem dX8_road_55 : decode cX8_road 55 = .ok (.aload_n 0, 1) := by decide +kernel
theorem dX8_road_56 : decode cX8_road 56 = .ok (.getfield 13, 3) := by decide +kernel
theorem dX8_road_59 : decode cX8_road 59 = .ok (.aload_n 0, 1) := by decide +kernel
theorem dX8_road_60 : decode cX8_road 60 = .ok (.getfield 57, 3) := by decide +kernel
theorem dX8_road_63 : decode cX8_road 63 = .ok (.iload_n 2, 1) := by decide +kernel
theorem dX8_road_64 : decode cX8_road 64 = .ok (.iastore, 1) := by decide +kernel
theorem dX8_road_65 : decode cX8_road 65 = .ok (.aload_n 0, 1) := by decide +kernel
theorem dX8_road_66 : decode cX8_road 66 = .ok (.getfield 16, 3) := by decide +kernel
theorem dX8_road_69 : decode cX8_road 69 = .ok (.aload_n 0, 1) := by decide +kernel
theorem dX8_road_70 : decode cX8_road 70 = .ok (.getfield 57, 3) := by decide +kernel
theorem dX8_road_73 : decode cX8_road 73 = .ok (.iconst (-1), 1) := by decide +kernel
theorem dX8_road_74 : decode cX8_road 74 = .ok (.iastore, 1) := by decide +kernel
theorem dX8_road_75 : decode cX8_road 75 = .ok (.aload_n 0, 1) := by decide +kernel
theorem dX8_road_76 : decode cX8_road 76 = .ok (.getfield 19, 3) := by decide +kernel
theorem dX8_road_79 : decode cX8_road 79 = .ok (.aload_n 0, 1) := by decide +kernel
theorem dX8_road_80 : decode cX8_road 80 = .ok (.getfield 57, 3) := by decide +kernel
theorem dX8_road_83 : decode cX8_road 83 = .ok (.ldc 71, 2) := by decide +kernel
theorem dX8_road_85 : decode cX8_road 85 = .ok (.iastore, 1) := by decide +kernel
theorem dX8_road_86 : decode cX8_road 86 = .ok (.aload_n 0, 1) := by decide +kernel
theorem dX8_road_87 : decode cX8_road 87 = .ok (.dup, 1) := by decide +kernel
theorem dX8_road_88 : decode cX8_road 88 = .ok (.getfield 57, 3) := by decide +kernel
theorem dX8_road_91 : decode cX8_road 91 = .ok (.iconst 1, 1) := by decide +kernel
theorem dX8_road_92 : decode cX8_road 92 = .ok (.iadd, 1) := by decide +kernel
theorem dX8_road_93 : decode cX8_road 93 = .ok (.putfield 57, 3) := by decide +kernel
theorem dX8_road_96 : decode cX8_road 96 = .ok (.aload_n 0, 1) := by decide +kernel
theorem dX8_road_97 : decode cX8_road 97 = .ok (.getfield 57, 3) := by decide +kernel
theorem dX8_road_100 : decode cX8_road 100 = .ok (.iconst 1, 1) := by decide +kernel
theorem dX8_road_101 : decode cX8_road 101 = .ok (.isub, 1) := by decide +kernel
theorem dX8_road_102 : decode cX8_road 102 = .ok (.ireturn, 1) := by decide +kernel
theorem dX8_drop_0 : decode cX8_drop 0 = .ok (.aload_n 0, 1) := by decide +kernel
theorem dX8_drop_1 : decode cX8_drop 1 = .ok (.getfield 57, 3) := by decide +kernel
theorem dX8_drop_4 : decode cX8_drop 4 = .ok (.ifCond .ne 6, 3) := by decide +kernel
theorem dX8_drop_7 : decode cX8_drop 7 = .ok (.bipush (-2), 2) := by decide +kernel
theorem dX8_drop_9 : decode cX8_drop 9 = .ok (.ireturn, 1) := by decide +kernel
theorem dX8_drop_10 : decode cX8_drop 10 = .ok (.aload_n 0, 1) := by decide +kernel
theorem dX8_drop_11 : decode cX8_drop 11 = .ok (.dup, 1) := by decide +kernel
theorem dX8_drop_12 : decode cX8_drop 12 = .ok (.getfield 57, 3) := by decide +kernel
theorem dX8_drop_15 : decode cX8_drop 15 = .ok (.iconst 1, 1) := by decide +kernel
theorem dX8_drop_16 : decode cX8_drop 16 = .ok (.isub, 1) := by decide +kernel
theorem dX8_drop_17 : decode cX8_drop 17 = .ok (.putfield 57, 3) := by decide +kernel
theorem dX8_drop_20 : decode cX8_drop 20 = .ok (.aload_n 0, 1) := by decide +kernel
theorem dX8_drop_21 : decode cX8_drop 21 = .ok (.getfield 57, 3) := by decide +kernel
theorem dX8_drop_24 : decode cX8_drop 24 = .ok (.ireturn, 1) := by decide +kernel
theorem dX8_paint_0 : decode cX8_paint 0 = .ok (.aload_n 0, 1) := by decide +kernel
theorem dX8_paint_1 : decode cX8_paint 1 = .ok (.iload_n 1, 1) := by decide +kernel
theorem dX8_paint_2 : decode cX8_paint 2 = .ok (.invokevirtual 72, 3) := by decide +kernel
theorem dX8_paint_5 : decode cX8_paint 5 = .ok (.ifCond .eq 13, 3) := by decide +kernel
theorem dX8_paint_8 : decode cX8_paint 8 = .ok (.iload_n 2, 1) := by decide +kernel
theorem dX8_paint_9 : decode cX8_paint 9 = .ok (.iconst (-1), 1) := by decide +kernel
theorem dX8_paint_10 : decode cX8_paint 10 = .ok (.bipush 15, 2) := by decide +kernel
theorem dX8_paint_12 : decode cX8_paint 12 = .ok (.invokestatic 60, 3) := by decide +kernel
theorem dX8_paint_15 : decode cX8_paint 15 = .ok (.ifCond .ne 6, 3) := by decide +kernel
theorem dX8_paint_18 : decode cX8_paint 18 = .ok (.bipush (-2), 2) := by decide +kernel
theorem dX8_paint_20 : decode cX8_paint 20 = .ok (.ireturn, 1) := by decide +kernel
theorem dX8_paint_21 : decode cX8_paint 21 = .ok (.aload_n 0, 1) := by decide +kernel
theorem dX8_paint_22 : decode cX8_paint 22 = .ok (.getfield 16, 3) := by decide +kernel
theorem dX8_paint_25 : decode cX8_paint 25 = .ok (.iload_n 1, 1) := by decide +kernel
theorem dX8_paint_26 : decode cX8_paint 26 = .ok (.iaload, 1) := by decide +kernel
theorem dX8_paint_27 : decode cX8_paint 27 = .ok (.istore_n 3, 1) := by decide +kernel
theorem dX8_paint_28 : decode cX8_paint 28 = .ok (.aload_n 0, 1) := by decide +kernel
theorem dX8_paint_29 : decode cX8_paint 29 = .ok (.getfield 16, 3) := by decide +kernel
theorem dX8_paint_32 : decode cX8_paint 32 = .ok (.iload_n 1, 1) := by decide +kernel
theorem dX8_paint_33 : decode cX8_paint 33 = .ok (.iload_n 2, 1) := by decide +kernel
theorem dX8_paint_34 : decode cX8_paint 34 = .ok (.iastore, 1) := by decide +kernel
theorem dX8_paint_35 : decode cX8_paint 35 = .ok (.iload_n 3, 1) := by decide +kernel
theorem dX8_paint_36 : decode cX8_paint 36 = .ok (.ireturn, 1) := by decide +kernel
theorem dX8_numbered_0 : decode cX8_numbered 0 = .ok (.iconst 0, 1) := by decide +kernel
theorem dX8_numbered_1 : decode cX8_numbered 1 = .ok (.istore_n 1, 1) := by decide +kernel
theorem dX8_numbered_2 : decode cX8_numbered 2 = .ok (.iconst 0, 1) := by decide +kernel
theorem dX8_numbered_3 : decode cX8_numbered 3 = .ok (.istore_n 2, 1) := by decide +kernel
theorem dX8_numbered_4 : decode cX8_numbered 4 = .ok (.iload_n 2, 1) := by decide +kernel
theorem dX8_numbered_5 : decode cX8_numbered 5 = .ok (.aload_n 0, 1) := by decide +kernel
theorem dX8_numbered_6 : decode cX8_numbered 6 = .ok (.getfield 57, 3) := by decide +kernel
theorem dX8_numbered_9 : decode cX8_numbered 9 = .ok (.if_icmp .ge 26, 3) := by decide +kernel
theorem dX8_numbered_12 : decode cX8_numbered 12 = .ok (.iload_n 1, 1) := by decide +kernel
theorem dX8_numbered_13 : decode cX8_numbered 13 = .ok (.aload_n 0, 1) := by decide +kernel
theorem dX8_numbered_14 : decode cX8_numbered 14 = .ok (.getfield 16, 3) := by decide +kernel
theorem dX8_numbered_17 : decode cX8_numbered 17 = .ok (.iload_n 2, 1) := by decide +kernel
theorem dX8_numbered_18 : decode cX8_numbered 18 = .ok (.iaload, 1) := by decide +kernel
theorem dX8_numbered_19 : decode cX8_numbered 19 = .ok (.ifCond .lt 7, 3) := by decide +kernel
theorem dX8_numbered_22 : decode cX8_numbered 22 = .ok (.iconst 1, 1) := by decide +kernel
theorem dX8_numbered_23 : decode cX8_numbered 23 = .ok (.goto 4, 3) := by decide +kernel
theorem dX8_numbered_26 : decode cX8_numbered 26 = .ok (.iconst 0, 1) := by decide +kernel
theorem dX8_numbered_27 : decode cX8_numbered 27 = .ok (.iadd, 1) := by decide +kernel
theorem dX8_numbered_28 : decode cX8_numbered 28 = .ok (.istore_n 1, 1) := by decide +kernel
theorem dX8_numbered_29 : decode cX8_numbered 29 = .ok (.iinc 2 1, 3) := by decide +kernel
theorem dX8_numbered_32 : decode cX8_numbered 32 = .ok (.goto (-28), 3) := by decide +kernel
theorem dX8_numbered_35 : decode cX8_numbered 35 = .ok (.iload_n 1, 1) := by decide +kernel
theorem dX8_numbered_36 : decode cX8_numbered 36 = .ok (.ireturn, 1) := by decide +kernel
theorem dX8_wash_0 : decode cX8_wash 0 = .ok (.aload_n 0, 1) := by decide +kernel
theorem dX8_wash_1 : decode cX8_wash 1 = .ok (.invokevirtual 76, 3) := by decide +kernel
theorem dX8_wash_4 : decode cX8_wash 4 = .ok (.istore_n 1, 1) := by decide +kernel
theorem dX8_wash_5 : decode cX8_wash 5 = .ok (.iconst 0, 1) := by decide +kernel
theorem dX8_wash_6 : decode cX8_wash 6 = .ok (.istore_n 2, 1) := by decide +kernel
theorem dX8_wash_7 : decode cX8_wash 7 = .ok (.iload_n 2, 1) := by decide +kernel
theorem dX8_wash_8 : decode cX8_wash 8 = .ok (.aload_n 0, 1) := by decide +kernel
theorem dX8_wash_9 : decode cX8_wash 9 = .ok (.getfield 57, 3) := by decide +kernel
theorem dX8_wash_12 : decode cX8_wash 12 = .ok (.if_icmp .ge 16, 3) := by decide +kernel
theorem dX8_wash_15 : decode cX8_wash 15 = .ok (.aload_n 0, 1) := by decide +kernel
theorem dX8_wash_16 : decode cX8_wash 16 = .ok (.getfield 16, 3) := by decide +kernel
theorem dX8_wash_19 : decode cX8_wash 19 = .ok (.iload_n 2, 1) := by decide +kernel
theorem dX8_wash_20 : decode cX8_wash 20 = .ok (.iconst (-1), 1) := by decide +kernel
theorem dX8_wash_21 : decode cX8_wash 21 = .ok (.iastore, 1) := by decide +kernel
theorem dX8_wash_22 : decode cX8_wash 22 = .ok (.iinc 2 1, 3) := by decide +kernel
theorem dX8_wash_25 : decode cX8_wash 25 = .ok (.goto (-18), 3) := by decide +kernel
theorem dX8_wash_28 : decode cX8_wash 28 = .ok (.iload_n 1, 1) := by decide +kernel
theorem dX8_wash_29 : decode cX8_wash 29 = .ok (.ireturn, 1) := by decide +kernel
theorem dX8_of_0 : decode cX8_of 0 = .ok (.aload_n 0, 1) := by decide +kernel
theorem dX8_of_1 : decode cX8_of 1 = .ok (.iload_n 1, 1) := by decide +kernel
theorem dX8_of_2 : decode cX8_of 2 = .ok (.invokevirtual 72, 3) := by decide +kernel
theorem dX8_of_5 : decode cX8_of 5 = .ok (.ifCond .ne 6, 3) := by decide +kernel
theorem dX8_of_8 : decode cX8_of 8 = .ok (.bipush (-2), 2) := by decide +kernel
theorem dX8_of_10 : decode cX8_of 10 = .ok (.ireturn, 1) := by decide +kernel
theorem dX8_of_11 : decode cX8_of 11 = .ok (.iload_n 2, 1) := by decide +kernel
theorem dX8_of_12 : decode cX8_of 12 = .ok (.ifCond .ne 12, 3) := by decide +kernel
theorem dX8_of_15 : decode cX8_of 15 = .ok (.aload_n 0, 1) := by decide +kernel
theorem dX8_of_16 : decode cX8_of 16 = .ok (.getfield 7, 3) := by decide +kernel
theorem dX8_of_19 : decode cX8_of 19 = .ok (.iload_n 1, 1) := by decide +kernel
theorem dX8_of_20 : decode cX8_of 20 = .ok (.iaload, 1) := by decide +kernel
theorem dX8_of_21 : decode cX8_of 21 = .ok (.goto 47, 3) := by decide +kernel
theorem dX8_of_24 : decode cX8_of 24 = .ok (.iload_n 2, 1) := by decide +kernel
theorem dX8_of_25 : decode cX8_of 25 = .ok (.iconst 1, 1) := by decide +kernel
theorem dX8_of_26 : decode cX8_of 26 = .ok (.if_icmp .ne 12, 3) := by decide +kernel
theorem dX8_of_29 : decode cX8_of 29 = .ok (.aload_n 0, 1) := by decide +kernel
theorem dX8_of_30 : decode cX8_of 30 = .ok (.getfield 13, 3) := by decide +kernel
theorem dX8_of_33 : decode cX8_of 33 = .ok (.iload_n 1, 1) := by decide +kernel
theorem dX8_of_34 : decode cX8_of 34 = .ok (.iaload, 1) := by decide +kernel
theorem dX8_of_35 : decode cX8_of 35 = .ok (.goto 33, 3) := by decide +kernel
theorem dX8_of_38 : decode cX8_of 38 = .ok (.iload_n 2, 1) := by decide +kernel
theorem dX8_of_39 : decode cX8_of 39 = .ok (.iconst 2, 1) := by decide +kernel
theorem dX8_of_40 : decode cX8_of 40 = .ok (.if_icmp .ne 12, 3) := by decide +kernel
theorem dX8_of_43 : decode cX8_of 43 = .ok (.aload_n 0, 1) := by decide +kernel
theorem dX8_of_44 : decode cX8_of 44 = .ok (.getfield 16, 3) := by decide +kernel
theorem dX8_of_47 : decode cX8_of 47 = .ok (.iload_n 1, 1) := by decide +kernel
theorem dX8_of_48 : decode cX8_of 48 = .ok (.iaload, 1) := by decide +kernel
theorem dX8_of_49 : decode cX8_of 49 = .ok (.goto 19, 3) := by decide +kernel
theorem dX8_of_52 : decode cX8_of 52 = .ok (.iload_n 2, 1) := by decide +kernel
theorem dX8_of_53 : decode cX8_of 53 = .ok (.iconst 3, 1) := by decide +kernel
theorem dX8_of_54 : decode cX8_of 54 = .ok (.if_icmp .ne 12, 3) := by decide +kernel
theorem dX8_of_57 : decode cX8_of 57 = .ok (.aload_n 0, 1) := by decide +kernel
theorem dX8_of_58 : decode cX8_of 58 = .ok (.getfield 19, 3) := by decide +kernel
theorem dX8_of_61 : decode cX8_of 61 = .ok (.iload_n 1, 1) := by decide +kernel
theorem dX8_of_62 : decode cX8_of 62 = .ok (.iaload, 1) := by decide +kernel
theorem dX8_of_63 : decode cX8_of 63 = .ok (.goto 5, 3) := by decide +kernel
theorem dX8_of_66 : decode cX8_of 66 = .ok (.bipush (-2), 2) := by decide +kernel
theorem dX8_of_68 : decode cX8_of 68 = .ok (.ireturn, 1) := by decide +kernel
theorem dX8_roadsAt_0 : decode cX8_roadsAt 0 = .ok (.iconst 0, 1) := by decide +kernel
theorem dX8_roadsAt_1 : decode cX8_roadsAt 1 = .ok (.istore_n 2, 1) := by decide +kernel
theorem dX8_roadsAt_2 : decode cX8_roadsAt 2 = .ok (.iconst 0, 1) := by decide +kernel
theorem dX8_roadsAt_3 : decode cX8_roadsAt 3 = .ok (.istore_n 3, 1) := by decide +kernel
theorem dX8_roadsAt_4 : decode cX8_roadsAt 4 = .ok (.iload_n 3, 1) := by decide +kernel
theorem dX8_roadsAt_5 : decode cX8_roadsAt 5 = .ok (.aload_n 0, 1) := by decide +kernel
theorem dX8_roadsAt_6 : decode cX8_roadsAt 6 = .ok (.getfield 57, 3) := by decide +kernel
theorem dX8_roadsAt_9 : decode cX8_roadsAt 9 = .ok (.if_icmp .ge 26, 3) := by decide +kernel
theorem dX8_roadsAt_12 : decode cX8_roadsAt 12 = .ok (.iload_n 2, 1) := by decide +kernel
theorem dX8_roadsAt_13 : decode cX8_roadsAt 13 = .ok (.aload_n 0, 1) := by decide +kernel
theorem dX8_roadsAt_14 : decode cX8_roadsAt 14 = .ok (.iload_n 3, 1) := by decide +kernel
theorem dX8_roadsAt_15 : decode cX8_roadsAt 15 = .ok (.iload_n 1, 1) := by decide +kernel
theorem dX8_roadsAt_16 : decode cX8_roadsAt 16 = .ok (.invokevirtual 64, 3) := by decide +kernel
theorem dX8_roadsAt_19 : decode cX8_roadsAt 19 = .ok (.ifCond .eq 7, 3) := by decide +kernel
theorem dX8_roadsAt_22 : decode cX8_roadsAt 22 = .ok (.iconst 1, 1) := by decide +kernel
theorem dX8_roadsAt_23 : decode cX8_roadsAt 23 = .ok (.goto 4, 3) := by decide +kernel
theorem dX8_roadsAt_26 : decode cX8_roadsAt 26 = .ok (.iconst 0, 1) := by decide +kernel
theorem dX8_roadsAt_27 : decode cX8_roadsAt 27 = .ok (.iadd, 1) := by decide +kernel
theorem dX8_roadsAt_28 : decode cX8_roadsAt 28 = .ok (.istore_n 2, 1) := by decide +kernel
theorem dX8_roadsAt_29 : decode cX8_roadsAt 29 = .ok (.iinc 3 1, 3) := by decide +kernel
theorem dX8_roadsAt_32 : decode cX8_roadsAt 32 = .ok (.goto (-28), 3) := by decide +kernel
theorem dX8_roadsAt_35 : decode cX8_roadsAt 35 = .ok (.iload_n 2, 1) := by decide +kernel
theorem dX8_roadsAt_36 : decode cX8_roadsAt 36 = .ok (.ireturn, 1) := by decide +kernel
theorem dX8_roads_0 : decode cX8_roads 0 = .ok (.iload_n 1, 1) := by decide +kernel
theorem dX8_roads_1 : decode cX8_roads 1 = .ok (.iconst 0, 1) := by decide +kernel
theorem dX8_roads_2 : decode cX8_roads 2 = .ok (.aload_n 0, 1) := by decide +kernel
theorem dX8_roads_3 : decode cX8_roads 3 = .ok (.getfield 68, 3) := by decide +kernel
theorem dX8_roads_6 : decode cX8_roads 6 = .ok (.iconst 1, 1) := by decide +kernel
theorem dX8_roads_7 : decode cX8_roads 7 = .ok (.isub, 1) := by decide +kernel
theorem dX8_roads_8 : decode cX8_roads 8 = .ok (.invokestatic 60, 3) := by decide +kernel
theorem dX8_roads_11 : decode cX8_roads 11 = .ok (.ifCond .eq 11, 3) := by decide +kernel
theorem dX8_roads_14 : decode cX8_roads 14 = .ok (.aload_n 0, 1) := by decide +kernel
theorem dX8_roads_15 : decode cX8_roads 15 = .ok (.iload_n 1, 1) := by decide +kernel
theorem dX8_roads_16 : decode cX8_roads 16 = .ok (.invokevirtual 80, 3) := by decide +kernel
theorem dX8_roads_19 : decode cX8_roads 19 = .ok (.goto 5, 3) := by decide +kernel
theorem dX8_roads_22 : decode cX8_roads 22 = .ok (.bipush (-2), 2) := by decide +kernel
theorem dX8_roads_24 : decode cX8_roads 24 = .ok (.ireturn, 1) := by decide +kernel
theorem dX8_with_0 : decode cX8_with 0 = .ok (.iconst 0, 1) := by decide +kernel
theorem dX8_with_1 : decode cX8_with 1 = .ok (.istore_n 3, 1) := by decide +kernel
theorem dX8_with_2 : decode cX8_with 2 = .ok (.iload_n 3, 1) := by decide +kernel
theorem dX8_with_3 : decode cX8_with 3 = .ok (.aload_n 0, 1) := by decide +kernel
theorem dX8_with_4 : decode cX8_with 4 = .ok (.getfield 57, 3) := by decide +kernel
theorem dX8_with_7 : decode cX8_with 7 = .ok (.if_icmp .ge 30, 3) := by decide +kernel
theorem dX8_with_10 : decode cX8_with 10 = .ok (.aload_n 0, 1) := by decide +kernel
theorem dX8_with_11 : decode cX8_with 11 = .ok (.iload_n 3, 1) := by decide +kernel
theorem dX8_with_12 : decode cX8_with 12 = .ok (.iload_n 1, 1) := by decide +kernel
theorem dX8_with_13 : decode cX8_with 13 = .ok (.invokevirtual 64, 3) := by decide +kernel
theorem dX8_with_16 : decode cX8_with 16 = .ok (.ifCond .eq 15, 3) := by decide +kernel
theorem dX8_with_19 : decode cX8_with 19 = .ok (.aload_n 0, 1) := by decide +kernel
theorem dX8_with_20 : decode cX8_with 20 = .ok (.getfield 16, 3) := by decide +kernel
theorem dX8_with_23 : decode cX8_with 23 = .ok (.iload_n 3, 1) := by decide +kernel
theorem dX8_with_24 : decode cX8_with 24 = .ok (.iaload, 1) := by decide +kernel
theorem dX8_with_25 : decode cX8_with 25 = .ok (.iload_n 2, 1) := by decide +kernel
theorem dX8_with_26 : decode cX8_with 26 = .ok (.if_icmp .ne 5, 3) := by decide +kernel
theorem dX8_with_29 : decode cX8_with 29 = .ok (.iload_n 3, 1) := by decide +kernel
theorem dX8_with_30 : decode cX8_with 30 = .ok (.ireturn, 1) := by decide +kernel
theorem dX8_with_31 : decode cX8_with 31 = .ok (.iinc 3 1, 3) := by decide +kernel
theorem dX8_with_34 : decode cX8_with 34 = .ok (.goto (-32), 3) := by decide +kernel
theorem dX8_with_37 : decode cX8_with 37 = .ok (.iconst (-1), 1) := by decide +kernel
theorem dX8_with_38 : decode cX8_with 38 = .ok (.ireturn, 1) := by decide +kernel
theorem dX8_leastFree_0 : decode cX8_leastFree 0 = .ok (.iconst 0, 1) := by decide +kernel
theorem dX8_leastFree_1 : decode cX8_leastFree 1 = .ok (.istore_n 2, 1) := by decide +kernel
theorem dX8_leastFree_2 : decode cX8_leastFree 2 = .ok (.iload_n 2, 1) := by decide +kernel
theorem dX8_leastFree_3 : decode cX8_leastFree 3 = .ok (.bipush 16, 2) := by decide +kernel
theorem dX8_leastFree_5 : decode cX8_leastFree 5 = .ok (.if_icmp .ge 18, 3) := by decide +kernel
theorem dX8_leastFree_8 : decode cX8_leastFree 8 = .ok (.aload_n 0, 1) := by decide +kernel
theorem dX8_leastFree_9 : decode cX8_leastFree 9 = .ok (.iload_n 1, 1) := by decide +kernel
theorem dX8_leastFree_10 : decode cX8_leastFree 10 = .ok (.iload_n 2, 1) := by decide +kernel
theorem dX8_leastFree_11 : decode cX8_leastFree 11 = .ok (.invokevirtual 84, 3) := by decide +kernel
theorem dX8_leastFree_14 : decode cX8_leastFree 14 = .ok (.ifCond .lt 9, 3) := by decide +kernel
theorem dX8_leastFree_17 : decode cX8_leastFree 17 = .ok (.iinc 2 1, 3) := by decide +kernel
theorem dX8_leastFree_20 : decode cX8_leastFree 20 = .ok (.goto (-18), 3) := by decide +kernel
theorem dX8_leastFree_23 : decode cX8_leastFree 23 = .ok (.iload_n 2, 1) := by decide +kernel
theorem dX8_leastFree_24 : decode cX8_leastFree 24 = .ok (.ireturn, 1) := by decide +kernel
theorem dX8_free_0 : decode cX8_free 0 = .ok (.iload_n 1, 1) := by decide +kernel
theorem dX8_free_1 : decode cX8_free 1 = .ok (.iconst 0, 1) := by decide +kernel
theorem dX8_free_2 : decode cX8_free 2 = .ok (.aload_n 0, 1) := by decide +kernel
theorem dX8_free_3 : decode cX8_free 3 = .ok (.getfield 68, 3) := by decide +kernel
theorem dX8_free_6 : decode cX8_free 6 = .ok (.iconst 1, 1) := by decide +kernel
theorem dX8_free_7 : decode cX8_free 7 = .ok (.isub, 1) := by decide +kernel
theorem dX8_free_8 : decode cX8_free 8 = .ok (.invokestatic 60, 3) := by decide +kernel
theorem dX8_free_11 : decode cX8_free 11 = .ok (.ifCond .eq 11, 3) := by decide +kernel
theorem dX8_free_14 : decode cX8_free 14 = .ok (.aload_n 0, 1) := by decide +kernel
theorem dX8_free_15 : decode cX8_free 15 = .ok (.iload_n 1, 1) := by decide +kernel
theorem dX8_free_16 : decode cX8_free 16 = .ok (.invokevirtual 88, 3) := by decide +kernel
theorem dX8_free_19 : decode cX8_free 19 = .ok (.goto 5, 3) := by decide +kernel
theorem dX8_free_22 : decode cX8_free 22 = .ok (.bipush (-2), 2) := by decide +kernel
theorem dX8_free_24 : decode cX8_free 24 = .ok (.ireturn, 1) := by decide +kernel
theorem dX8_isClash_0 : decode cX8_isClash 0 = .ok (.iconst 0, 1) := by decide +kernel
theorem dX8_isClash_1 : decode cX8_isClash 1 = .ok (.istore_n 2, 1) := by decide +kernel
theorem dX8_isClash_2 : decode cX8_isClash 2 = .ok (.iload_n 2, 1) := by decide +kernel
theorem dX8_isClash_3 : decode cX8_isClash 3 = .ok (.aload_n 0, 1) := by decide +kernel
theorem dX8_isClash_4 : decode cX8_isClash 4 = .ok (.getfield 57, 3) := by decide +kernel
theorem dX8_isClash_7 : decode cX8_isClash 7 = .ok (.if_icmp .ge 49, 3) := by decide +kernel
theorem dX8_isClash_10 : decode cX8_isClash 10 = .ok (.iload_n 2, 1) := by decide +kernel
theorem dX8_isClash_11 : decode cX8_isClash 11 = .ok (.iload_n 1, 1) := by decide +kernel
theorem dX8_isClash_12 : decode cX8_isClash 12 = .ok (.if_icmp .eq 38, 3) := by decide +kernel
theorem dX8_isClash_15 : decode cX8_isClash 15 = .ok (.aload_n 0, 1) := by decide +kernel
theorem dX8_isClash_16 : decode cX8_isClash 16 = .ok (.getfield 16, 3) := by decide +kernel
theorem dX8_isClash_19 : decode cX8_isClash 19 = .ok (.iload_n 1, 1) := by decide +kernel
theorem dX8_isClash_20 : decode cX8_isClash 20 = .ok (.iaload, 1) := by decide +kernel
theorem dX8_isClash_21 : decode cX8_isClash 21 = .ok (.ifCond .lt 29, 3) := by decide +kernel
theorem dX8_isClash_24 : decode cX8_isClash 24 = .ok (.aload_n 0, 1) := by decide +kernel
theorem dX8_isClash_25 : decode cX8_isClash 25 = .ok (.getfield 16, 3) := by decide +kernel
theorem dX8_isClash_28 : decode cX8_isClash 28 = .ok (.iload_n 2, 1) := by decide +kernel
theorem dX8_isClash_29 : decode cX8_isClash 29 = .ok (.iaload, 1) := by decide +kernel
theorem dX8_isClash_30 : decode cX8_isClash 30 = .ok (.aload_n 0, 1) := by decide +kernel
theorem dX8_isClash_31 : decode cX8_isClash 31 = .ok (.getfield 16, 3) := by decide +kernel
theorem dX8_isClash_34 : decode cX8_isClash 34 = .ok (.iload_n 1, 1) := by decide +kernel
theorem dX8_isClash_35 : decode cX8_isClash 35 = .ok (.iaload, 1) := by decide +kernel
theorem dX8_isClash_36 : decode cX8_isClash 36 = .ok (.if_icmp .ne 14, 3) := by decide +kernel
theorem dX8_isClash_39 : decode cX8_isClash 39 = .ok (.aload_n 0, 1) := by decide +kernel
theorem dX8_isClash_40 : decode cX8_isClash 40 = .ok (.iload_n 1, 1) := by decide +kernel
theorem dX8_isClash_41 : decode cX8_isClash 41 = .ok (.iload_n 2, 1) := by decide +kernel
theorem dX8_isClash_42 : decode cX8_isClash 42 = .ok (.invokevirtual 91, 3) := by decide +kernel
theorem dX8_isClash_45 : decode cX8_isClash 45 = .ok (.ifCond .eq 5, 3) := by decide +kernel
theorem dX8_isClash_48 : decode cX8_isClash 48 = .ok (.iconst 1, 1) := by decide +kernel
theorem dX8_isClash_49 : decode cX8_isClash 49 = .ok (.ireturn, 1) := by decide +kernel
theorem dX8_isClash_50 : decode cX8_isClash 50 = .ok (.iinc 2 1, 3) := by decide +kernel
theorem dX8_isClash_53 : decode cX8_isClash 53 = .ok (.goto (-51), 3) := by decide +kernel
theorem dX8_isClash_56 : decode cX8_isClash 56 = .ok (.iconst 0, 1) := by decide +kernel
theorem dX8_isClash_57 : decode cX8_isClash 57 = .ok (.ireturn, 1) := by decide +kernel
theorem dX8_clashing_0 : decode cX8_clashing 0 = .ok (.iconst 0, 1) := by decide +kernel
theorem dX8_clashing_1 : decode cX8_clashing 1 = .ok (.istore_n 1, 1) := by decide +kernel
theorem dX8_clashing_2 : decode cX8_clashing 2 = .ok (.iload_n 1, 1) := by decide +kernel
theorem dX8_clashing_3 : decode cX8_clashing 3 = .ok (.aload_n 0, 1) := by decide +kernel
theorem dX8_clashing_4 : decode cX8_clashing 4 = .ok (.getfield 57, 3) := by decide +kernel
theorem dX8_clashing_7 : decode cX8_clashing 7 = .ok (.if_icmp .ge 19, 3) := by decide +kernel
theorem dX8_clashing_10 : decode cX8_clashing 10 = .ok (.aload_n 0, 1) := by decide +kernel
theorem dX8_clashing_11 : decode cX8_clashing 11 = .ok (.iload_n 1, 1) := by decide +kernel
theorem dX8_clashing_12 : decode cX8_clashing 12 = .ok (.invokevirtual 94, 3) := by decide +kernel
theorem dX8_clashing_15 : decode cX8_clashing 15 = .ok (.ifCond .eq 5, 3) := by decide +kernel
theorem dX8_clashing_18 : decode cX8_clashing 18 = .ok (.iload_n 1, 1) := by decide +kernel
theorem dX8_clashing_19 : decode cX8_clashing 19 = .ok (.ireturn, 1) := by decide +kernel
theorem dX8_clashing_20 : decode cX8_clashing 20 = .ok (.iinc 1 1, 3) := by decide +kernel
theorem dX8_clashing_23 : decode cX8_clashing 23 = .ok (.goto (-21), 3) := by decide +kernel
theorem dX8_clashing_26 : decode cX8_clashing 26 = .ok (.iconst (-1), 1) := by decide +kernel
theorem dX8_clashing_27 : decode cX8_clashing 27 = .ok (.ireturn, 1) := by decide +kernel
theorem dX8_clash_0 : decode cX8_clash 0 = .ok (.aload_n 0, 1) := by decide +kernel
theorem dX8_clash_1 : decode cX8_clash 1 = .ok (.invokevirtual 97, 3) := by decide +kernel
theorem dX8_clash_4 : decode cX8_clash 4 = .ok (.ireturn, 1) := by decide +kernel
theorem dX8_chainOf_0 : decode cX8_chainOf 0 = .ok (.iconst 1, 1) := by decide +kernel
theorem dX8_chainOf_1 : decode cX8_chainOf 1 = .ok (.iload_n 1, 1) := by decide +kernel
theorem dX8_chainOf_2 : decode cX8_chainOf 2 = .ok (.ishl, 1) := by decide +kernel
theorem dX8_chainOf_3 : decode cX8_chainOf 3 = .ok (.istore 4, 2) := by decide +kernel
theorem dX8_chainOf_5 : decode cX8_chainOf 5 = .ok (.iconst 1, 1) := by decide +kernel
theorem dX8_chainOf_6 : decode cX8_chainOf 6 = .ok (.istore 5, 2) := by decide +kernel
theorem dX8_chainOf_8 : decode cX8_chainOf 8 = .ok (.iload 5, 2) := by decide +kernel
theorem dX8_chainOf_10 : decode cX8_chainOf 10 = .ok (.ifCond .eq 138, 3) := by decide +kernel
theorem dX8_chainOf_13 : decode cX8_chainOf 13 = .ok (.iconst 0, 1) := by decide +kernel
theorem dX8_chainOf_14 : decode cX8_chainOf 14 = .ok (.istore 5, 2) := by decide +kernel
theorem dX8_chainOf_16 : decode cX8_chainOf 16 = .ok (.iconst 0, 1) := by decide +kernel
theorem dX8_chainOf_17 : decode cX8_chainOf 17 = .ok (.istore 6, 2) := by decide +kernel
theorem dX8_chainOf_19 : decode cX8_chainOf 19 = .ok (.iload 6, 2) := by decide +kernel
theorem dX8_chainOf_21 : decode cX8_chainOf 21 = .ok (.aload_n 0, 1) := by decide +kernel
theorem dX8_chainOf_22 : decode cX8_chainOf 22 = .ok (.getfield 57, 3) := by decide +kernel
theorem dX8_chainOf_25 : decode cX8_chainOf 25 = .ok (.if_icmp .ge 120, 3) := by decide +kernel
theorem dX8_chainOf_28 : decode cX8_chainOf 28 = .ok (.iload 4, 2) := by decide +kernel
theorem dX8_chainOf_30 : decode cX8_chainOf 30 = .ok (.iload 6, 2) := by decide +kernel
theorem dX8_chainOf_32 : decode cX8_chainOf 32 = .ok (.ishr, 1) := by decide +kernel
theorem dX8_chainOf_33 : decode cX8_chainOf 33 = .ok (.iconst 1, 1) := by decide +kernel
theorem dX8_chainOf_34 : decode cX8_chainOf 34 = .ok (.iand, 1) := by decide +kernel
theorem dX8_chainOf_35 : decode cX8_chainOf 35 = .ok (.iconst 1, 1) := by decide +kernel
theorem dX8_chainOf_36 : decode cX8_chainOf 36 = .ok (.if_icmp .eq 103, 3) := by decide +kernel
theorem dX8_chainOf_39 : decode cX8_chainOf 39 = .ok (.aload_n 0, 1) := by decide +kernel
theorem dX8_chainOf_40 : decode cX8_chainOf 40 = .ok (.getfield 16, 3) := by decide +kernel
theorem dX8_chainOf_43 : decode cX8_chainOf 43 = .ok (.iload 6, 2) := by decide +kernel
theorem dX8_chainOf_45 : decode cX8_chainOf 45 = .ok (.iaload, 1) := by decide +kernel
theorem dX8_chainOf_46 : decode cX8_chainOf 46 = .ok (.iload_n 2, 1) := by decide +kernel
theorem dX8_chainOf_47 : decode cX8_chainOf 47 = .ok (.if_icmp .eq 17, 3) := by decide +kernel
theorem dX8_chainOf_50 : decode cX8_chainOf 50 = .ok (.aload_n 0, 1) := by decide +kernel
theorem dX8_chainOf_51 : decode cX8_chainOf 51 = .ok (.getfield 16, 3) := by decide +kernel
theorem dX8_chainOf_54 : decode cX8_chainOf 54 = .ok (.iload 6, 2) := by decide +kernel
theorem dX8_chainOf_56 : decode cX8_chainOf 56 = .ok (.iaload, 1) := by decide +kernel
theorem dX8_chainOf_57 : decode cX8_chainOf 57 = .ok (.iload_n 3, 1) := by decide +kernel
theorem dX8_chainOf_58 : decode cX8_chainOf 58 = .ok (.if_icmp .eq 6, 3) := by decide +kernel
theorem dX8_chainOf_61 : decode cX8_chainOf 61 = .ok (.goto 78, 3) := by decide +kernel
theorem dX8_chainOf_64 : decode cX8_chainOf 64 = .ok (.iconst 0, 1) := by decide +kernel
theorem dX8_chainOf_65 : decode cX8_chainOf 65 = .ok (.istore 7, 2) := by decide +kernel
theorem dX8_chainOf_67 : decode cX8_chainOf 67 = .ok (.iconst 0, 1) := by decide +kernel
theorem dX8_chainOf_68 : decode cX8_chainOf 68 = .ok (.istore 8, 2) := by decide +kernel
theorem dX8_chainOf_70 : decode cX8_chainOf 70 = .ok (.iload 8, 2) := by decide +kernel
theorem dX8_chainOf_72 : decode cX8_chainOf 72 = .ok (.aload_n 0, 1) := by decide +kernel
theorem dX8_chainOf_73 : decode cX8_chainOf 73 = .ok (.getfield 57, 3) := by decide +kernel
theorem dX8_chainOf_76 : decode cX8_chainOf 76 = .ok (.if_icmp .ge 43, 3) := by decide +kernel
theorem dX8_chainOf_79 : decode cX8_chainOf 79 = .ok (.iload 7, 2) := by decide +kernel
theorem dX8_chainOf_81 : decode cX8_chainOf 81 = .ok (.ifCond .ne 25, 3) := by decide +kernel
theorem dX8_chainOf_84 : decode cX8_chainOf 84 = .ok (.iload 4, 2) := by decide +kernel
theorem dX8_chainOf_86 : decode cX8_chainOf 86 = .ok (.iload 8, 2) := by decide +kernel
theorem dX8_chainOf_88 : decode cX8_chainOf 88 = .ok (.ishr, 1) := by decide +kernel
theorem dX8_chainOf_89 : decode cX8_chainOf 89 = .ok (.iconst 1, 1) := by decide +kernel
theorem dX8_chainOf_90 : decode cX8_chainOf 90 = .ok (.iand, 1) := by decide +kernel
theorem dX8_chainOf_91 : decode cX8_chainOf 91 = .ok (.iconst 1, 1) := by decide +kernel
theorem dX8_chainOf_92 : decode cX8_chainOf 92 = .ok (.if_icmp .ne 18, 3) := by decide +kernel
theorem dX8_chainOf_95 : decode cX8_chainOf 95 = .ok (.aload_n 0, 1) := by decide +kernel
theorem dX8_chainOf_96 : decode cX8_chainOf 96 = .ok (.iload 6, 2) := by decide +kernel
theorem dX8_chainOf_98 : decode cX8_chainOf 98 = .ok (.iload 8, 2) := by decide +kernel
theorem dX8_chainOf_100 : decode cX8_chainOf 100 = .ok (.invokevirtual 91, 3) := by decide +kernel
theorem dX8_chainOf_103 : decode cX8_chainOf 103 = .ok (.ifCond .eq 7, 3) := by decide +kernel
theorem dX8_chainOf_106 : decode cX8_chainOf 106 = .ok (.iconst 1, 1) := by decide +kernel
theorem dX8_chainOf_107 : decode cX8_chainOf 107 = .ok (.goto 4, 3) := by decide +kernel
theorem dX8_chainOf_110 : decode cX8_chainOf 110 = .ok (.iconst 0, 1) := by decide +kernel
theorem dX8_chainOf_111 : decode cX8_chainOf 111 = .ok (.istore 7, 2) := by decide +kernel
theorem dX8_chainOf_113 : decode cX8_chainOf 113 = .ok (.iinc 8 1, 3) := by decide +kernel
theorem dX8_chainOf_116 : decode cX8_chainOf 116 = .ok (.goto (-46), 3) := by decide +kernel
theorem dX8_chainOf_119 : decode cX8_chainOf 119 = .ok (.iload 7, 2) := by decide +kernel
theorem dX8_chainOf_121 : decode cX8_chainOf 121 = .ok (.ifCond .ne 6, 3) := by decide +kernel
theorem dX8_chainOf_124 : decode cX8_chainOf 124 = .ok (.goto 15, 3) := by decide +kernel
theorem dX8_chainOf_127 : decode cX8_chainOf 127 = .ok (.iload 4, 2) := by decide +kernel
theorem dX8_chainOf_129 : decode cX8_chainOf 129 = .ok (.iconst 1, 1) := by decide +kernel
theorem dX8_chainOf_130 : decode cX8_chainOf 130 = .ok (.iload 6, 2) := by decide +kernel
theorem dX8_chainOf_132 : decode cX8_chainOf 132 = .ok (.ishl, 1) := by decide +kernel
theorem dX8_chainOf_133 : decode cX8_chainOf 133 = .ok (.ior, 1) := by decide +kernel
theorem dX8_chainOf_134 : decode cX8_chainOf 134 = .ok (.istore 4, 2) := by decide +kernel
theorem dX8_chainOf_136 : decode cX8_chainOf 136 = .ok (.iconst 1, 1) := by decide +kernel
theorem dX8_chainOf_137 : decode cX8_chainOf 137 = .ok (.istore 5, 2) := by decide +kernel
theorem dX8_chainOf_139 : decode cX8_chainOf 139 = .ok (.iinc 6 1, 3) := by decide +kernel
theorem dX8_chainOf_142 : decode cX8_chainOf 142 = .ok (.goto (-123), 3) := by decide +kernel
theorem dX8_chainOf_145 : decode cX8_chainOf 145 = .ok (.goto (-137), 3) := by decide +kernel
theorem dX8_chainOf_148 : decode cX8_chainOf 148 = .ok (.iload 4, 2) := by decide +kernel
theorem dX8_chainOf_150 : decode cX8_chainOf 150 = .ok (.ireturn, 1) := by decide +kernel
theorem dX8_swapped_0 : decode cX8_swapped 0 = .ok (.iconst 0, 1) := by decide +kernel
theorem dX8_swapped_1 : decode cX8_swapped 1 = .ok (.istore 4, 2) := by decide +kernel
theorem dX8_swapped_3 : decode cX8_swapped 3 = .ok (.iload 4, 2) := by decide +kernel
theorem dX8_swapped_5 : decode cX8_swapped 5 = .ok (.aload_n 0, 1) := by decide +kernel
theorem dX8_swapped_6 : decode cX8_swapped 6 = .ok (.getfield 57, 3) := by decide +kernel
theorem dX8_swapped_9 : decode cX8_swapped 9 = .ok (.if_icmp .ge 42, 3) := by decide +kernel
theorem dX8_swapped_12 : decode cX8_swapped 12 = .ok (.iload_n 1, 1) := by decide +kernel
theorem dX8_swapped_13 : decode cX8_swapped 13 = .ok (.iload 4, 2) := by decide +kernel
theorem dX8_swapped_15 : decode cX8_swapped 15 = .ok (.ishr, 1) := by decide +kernel
theorem dX8_swapped_16 : decode cX8_swapped 16 = .ok (.iconst 1, 1) := by decide +kernel
theorem dX8_swapped_17 : decode cX8_swapped 17 = .ok (.iand, 1) := by decide +kernel
theorem dX8_swapped_18 : decode cX8_swapped 18 = .ok (.iconst 1, 1) := by decide +kernel
theorem dX8_swapped_19 : decode cX8_swapped 19 = .ok (.if_icmp .ne 26, 3) := by decide +kernel
theorem dX8_swapped_22 : decode cX8_swapped 22 = .ok (.aload_n 0, 1) := by decide +kernel
theorem dX8_swapped_23 : decode cX8_swapped 23 = .ok (.getfield 16, 3) := by decide +kernel
theorem dX8_swapped_26 : decode cX8_swapped 26 = .ok (.iload 4, 2) := by decide +kernel
theorem dX8_swapped_28 : decode cX8_swapped 28 = .ok (.aload_n 0, 1) := by decide +kernel
theorem dX8_swapped_29 : decode cX8_swapped 29 = .ok (.getfield 16, 3) := by decide +kernel
theorem dX8_swapped_32 : decode cX8_swapped 32 = .ok (.iload 4, 2) := by decide +kernel
theorem dX8_swapped_34 : decode cX8_swapped 34 = .ok (.iaload, 1) := by decide +kernel
theorem dX8_swapped_35 : decode cX8_swapped 35 = .ok (.iload_n 2, 1) := by decide +kernel
theorem dX8_swapped_36 : decode cX8_swapped 36 = .ok (.if_icmp .ne 7, 3) := by decide +kernel
theorem dX8_swapped_39 : decode cX8_swapped 39 = .ok (.iload_n 3, 1) := by decide +kernel
theorem dX8_swapped_40 : decode cX8_swapped 40 = .ok (.goto 4, 3) := by decide +kernel
theorem dX8_swapped_43 : decode cX8_swapped 43 = .ok (.iload_n 2, 1) := by decide +kernel
theorem dX8_swapped_44 : decode cX8_swapped 44 = .ok (.iastore, 1) := by decide +kernel
theorem dX8_swapped_45 : decode cX8_swapped 45 = .ok (.iinc 4 1, 3) := by decide +kernel
theorem dX8_swapped_48 : decode cX8_swapped 48 = .ok (.goto (-45), 3) := by decide +kernel
theorem dX8_swapped_51 : decode cX8_swapped 51 = .ok (.return_, 1) := by decide +kernel
theorem dX8_ones_0 : decode cX8_ones 0 = .ok (.iconst 0, 1) := by decide +kernel
theorem dX8_ones_1 : decode cX8_ones 1 = .ok (.istore_n 1, 1) := by decide +kernel
theorem dX8_ones_2 : decode cX8_ones 2 = .ok (.iconst 0, 1) := by decide +kernel
theorem dX8_ones_3 : decode cX8_ones 3 = .ok (.istore_n 2, 1) := by decide +kernel
theorem dX8_ones_4 : decode cX8_ones 4 = .ok (.iload_n 2, 1) := by decide +kernel
theorem dX8_ones_5 : decode cX8_ones 5 = .ok (.bipush 24, 2) := by decide +kernel
theorem dX8_ones_7 : decode cX8_ones 7 = .ok (.if_icmp .ge 17, 3) := by decide +kernel
theorem dX8_ones_10 : decode cX8_ones 10 = .ok (.iload_n 1, 1) := by decide +kernel
theorem dX8_ones_11 : decode cX8_ones 11 = .ok (.iload_n 0, 1) := by decide +kernel
theorem dX8_ones_12 : decode cX8_ones 12 = .ok (.iload_n 2, 1) := by decide +kernel
theorem dX8_ones_13 : decode cX8_ones 13 = .ok (.ishr, 1) := by decide +kernel
theorem dX8_ones_14 : decode cX8_ones 14 = .ok (.iconst 1, 1) := by decide +kernel
theorem dX8_ones_15 : decode cX8_ones 15 = .ok (.iand, 1) := by decide +kernel
theorem dX8_ones_16 : decode cX8_ones 16 = .ok (.iadd, 1) := by decide +kernel
theorem dX8_ones_17 : decode cX8_ones 17 = .ok (.istore_n 1, 1) := by decide +kernel
theorem dX8_ones_18 : decode cX8_ones 18 = .ok (.iinc 2 1, 3) := by decide +kernel
theorem dX8_ones_21 : decode cX8_ones 21 = .ok (.goto (-17), 3) := by decide +kernel
theorem dX8_ones_24 : decode cX8_ones 24 = .ok (.iload_n 1, 1) := by decide +kernel
theorem dX8_ones_25 : decode cX8_ones 25 = .ok (.ireturn, 1) := by decide +kernel
theorem dX8_isChain_0 : decode cX8_isChain 0 = .ok (.aload_n 0, 1) := by decide +kernel
theorem dX8_isChain_1 : decode cX8_isChain 1 = .ok (.iload_n 1, 1) := by decide +kernel
theorem dX8_isChain_2 : decode cX8_isChain 2 = .ok (.invokevirtual 72, 3) := by decide +kernel
theorem dX8_isChain_5 : decode cX8_isChain 5 = .ok (.ifCond .eq 52, 3) := by decide +kernel
theorem dX8_isChain_8 : decode cX8_isChain 8 = .ok (.iload_n 2, 1) := by decide +kernel
theorem dX8_isChain_9 : decode cX8_isChain 9 = .ok (.iconst 0, 1) := by decide +kernel
theorem dX8_isChain_10 : decode cX8_isChain 10 = .ok (.bipush 15, 2) := by decide +kernel
theorem dX8_isChain_12 : decode cX8_isChain 12 = .ok (.invokestatic 60, 3) := by decide +kernel
theorem dX8_isChain_15 : decode cX8_isChain 15 = .ok (.ifCond .eq 42, 3) := by decide +kernel
theorem dX8_isChain_18 : decode cX8_isChain 18 = .ok (.iload_n 3, 1) := by decide +kernel
theorem dX8_isChain_19 : decode cX8_isChain 19 = .ok (.iconst 0, 1) := by decide +kernel
theorem dX8_isChain_20 : decode cX8_isChain 20 = .ok (.bipush 15, 2) := by decide +kernel
theorem dX8_isChain_22 : decode cX8_isChain 22 = .ok (.invokestatic 60, 3) := by decide +kernel
theorem dX8_isChain_25 : decode cX8_isChain 25 = .ok (.ifCond .eq 32, 3) := by decide +kernel
theorem dX8_isChain_28 : decode cX8_isChain 28 = .ok (.iload_n 2, 1) := by decide +kernel
theorem dX8_isChain_29 : decode cX8_isChain 29 = .ok (.iload_n 3, 1) := by decide +kernel
theorem dX8_isChain_30 : decode cX8_isChain 30 = .ok (.if_icmp .eq 27, 3) := by decide +kernel
theorem dX8_isChain_33 : decode cX8_isChain 33 = .ok (.aload_n 0, 1) := by decide +kernel
theorem dX8_isChain_34 : decode cX8_isChain 34 = .ok (.getfield 16, 3) := by decide +kernel
theorem dX8_isChain_37 : decode cX8_isChain 37 = .ok (.iload_n 1, 1) := by decide +kernel
theorem dX8_isChain_38 : decode cX8_isChain 38 = .ok (.iaload, 1) := by decide +kernel
theorem dX8_isChain_39 : decode cX8_isChain 39 = .ok (.iload_n 2, 1) := by decide +kernel
theorem dX8_isChain_40 : decode cX8_isChain 40 = .ok (.if_icmp .eq 13, 3) := by decide +kernel
theorem dX8_isChain_43 : decode cX8_isChain 43 = .ok (.aload_n 0, 1) := by decide +kernel
theorem dX8_isChain_44 : decode cX8_isChain 44 = .ok (.getfield 16, 3) := by decide +kernel
theorem dX8_isChain_47 : decode cX8_isChain 47 = .ok (.iload_n 1, 1) := by decide +kernel
theorem dX8_isChain_48 : decode cX8_isChain 48 = .ok (.iaload, 1) := by decide +kernel
theorem dX8_isChain_49 : decode cX8_isChain 49 = .ok (.iload_n 3, 1) := by decide +kernel
theorem dX8_isChain_50 : decode cX8_isChain 50 = .ok (.if_icmp .ne 7, 3) := by decide +kernel
theorem dX8_isChain_53 : decode cX8_isChain 53 = .ok (.iconst 1, 1) := by decide +kernel
theorem dX8_isChain_54 : decode cX8_isChain 54 = .ok (.goto 4, 3) := by decide +kernel
theorem dX8_isChain_57 : decode cX8_isChain 57 = .ok (.iconst 0, 1) := by decide +kernel
theorem dX8_isChain_58 : decode cX8_isChain 58 = .ok (.ireturn, 1) := by decide +kernel
theorem dX8_chain_0 : decode cX8_chain 0 = .ok (.aload_n 0, 1) := by decide +kernel
theorem dX8_chain_1 : decode cX8_chain 1 = .ok (.iload_n 1, 1) := by decide +kernel
theorem dX8_chain_2 : decode cX8_chain 2 = .ok (.iload_n 2, 1) := by decide +kernel
theorem dX8_chain_3 : decode cX8_chain 3 = .ok (.iload_n 3, 1) := by decide +kernel
theorem dX8_chain_4 : decode cX8_chain 4 = .ok (.invokevirtual 100, 3) := by decide +kernel
theorem dX8_chain_7 : decode cX8_chain 7 = .ok (.ifCond .eq 16, 3) := by decide +kernel
theorem dX8_chain_10 : decode cX8_chain 10 = .ok (.aload_n 0, 1) := by decide +kernel
theorem dX8_chain_11 : decode cX8_chain 11 = .ok (.iload_n 1, 1) := by decide +kernel
theorem dX8_chain_12 : decode cX8_chain 12 = .ok (.iload_n 2, 1) := by decide +kernel
theorem dX8_chain_13 : decode cX8_chain 13 = .ok (.iload_n 3, 1) := by decide +kernel
theorem dX8_chain_14 : decode cX8_chain 14 = .ok (.invokevirtual 103, 3) := by decide +kernel
theorem dX8_chain_17 : decode cX8_chain 17 = .ok (.invokestatic 107, 3) := by decide +kernel
theorem dX8_chain_20 : decode cX8_chain 20 = .ok (.goto 5, 3) := by decide +kernel
theorem dX8_chain_23 : decode cX8_chain 23 = .ok (.bipush (-2), 2) := by decide +kernel
theorem dX8_chain_25 : decode cX8_chain 25 = .ok (.ireturn, 1) := by decide +kernel
theorem dX8_swap_0 : decode cX8_swap 0 = .ok (.aload_n 0, 1) := by decide +kernel
theorem dX8_swap_1 : decode cX8_swap 1 = .ok (.iload_n 1, 1) := by decide +kernel
theorem dX8_swap_2 : decode cX8_swap 2 = .ok (.iload_n 2, 1) := by decide +kernel
theorem dX8_swap_3 : decode cX8_swap 3 = .ok (.iload_n 3, 1) := by decide +kernel
theorem dX8_swap_4 : decode cX8_swap 4 = .ok (.invokevirtual 100, 3) := by decide +kernel
theorem dX8_swap_7 : decode cX8_swap 7 = .ok (.ifCond .ne 6, 3) := by decide +kernel
theorem dX8_swap_10 : decode cX8_swap 10 = .ok (.bipush (-2), 2) := by decide +kernel
theorem dX8_swap_12 : decode cX8_swap 12 = .ok (.ireturn, 1) := by decide +kernel
theorem dX8_swap_13 : decode cX8_swap 13 = .ok (.aload_n 0, 1) := by decide +kernel
theorem dX8_swap_14 : decode cX8_swap 14 = .ok (.iload_n 1, 1) := by decide +kernel
theorem dX8_swap_15 : decode cX8_swap 15 = .ok (.iload_n 2, 1) := by decide +kernel
theorem dX8_swap_16 : decode cX8_swap 16 = .ok (.iload_n 3, 1) := by decide +kernel
theorem dX8_swap_17 : decode cX8_swap 17 = .ok (.invokevirtual 103, 3) := by decide +kernel
theorem dX8_swap_20 : decode cX8_swap 20 = .ok (.istore 4, 2) := by decide +kernel
theorem dX8_swap_22 : decode cX8_swap 22 = .ok (.aload_n 0, 1) := by decide +kernel
theorem dX8_swap_23 : decode cX8_swap 23 = .ok (.iload 4, 2) := by decide +kernel
theorem dX8_swap_25 : decode cX8_swap 25 = .ok (.iload_n 2, 1) := by decide +kernel
theorem dX8_swap_26 : decode cX8_swap 26 = .ok (.iload_n 3, 1) := by decide +kernel
theorem dX8_swap_27 : decode cX8_swap 27 = .ok (.invokevirtual 110, 3) := by decide +kernel
theorem dX8_swap_30 : decode cX8_swap 30 = .ok (.iload 4, 2) := by decide +kernel
theorem dX8_swap_32 : decode cX8_swap 32 = .ok (.invokestatic 107, 3) := by decide +kernel
theorem dX8_swap_35 : decode cX8_swap 35 = .ok (.ireturn, 1) := by decide +kernel
theorem dX8_fullOf_0 : decode cX8_fullOf 0 = .ok (.iconst 0, 1) := by decide +kernel
theorem dX8_fullOf_1 : decode cX8_fullOf 1 = .ok (.istore_n 1, 1) := by decide +kernel
theorem dX8_fullOf_2 : decode cX8_fullOf 2 = .ok (.iconst 0, 1) := by decide +kernel
theorem dX8_fullOf_3 : decode cX8_fullOf 3 = .ok (.istore_n 2, 1) := by decide +kernel
theorem dX8_fullOf_4 : decode cX8_fullOf 4 = .ok (.iload_n 2, 1) := by decide +kernel
theorem dX8_fullOf_5 : decode cX8_fullOf 5 = .ok (.aload_n 0, 1) := by decide +kernel
theorem dX8_fullOf_6 : decode cX8_fullOf 6 = .ok (.getfield 68, 3) := by decide +kernel
theorem dX8_fullOf_9 : decode cX8_fullOf 9 = .ok (.if_icmp .ge 28, 3) := by decide +kernel
theorem dX8_fullOf_12 : decode cX8_fullOf 12 = .ok (.aload_n 0, 1) := by decide +kernel
theorem dX8_fullOf_13 : decode cX8_fullOf 13 = .ok (.iload_n 2, 1) := by decide +kernel
theorem dX8_fullOf_14 : decode cX8_fullOf 14 = .ok (.invokevirtual 80, 3) := by decide +kernel
theorem dX8_fullOf_17 : decode cX8_fullOf 17 = .ok (.iload_n 1, 1) := by decide +kernel
theorem dX8_fullOf_18 : decode cX8_fullOf 18 = .ok (.if_icmp .le 11, 3) := by decide +kernel
theorem dX8_fullOf_21 : decode cX8_fullOf 21 = .ok (.aload_n 0, 1) := by decide +kernel
theorem dX8_fullOf_22 : decode cX8_fullOf 22 = .ok (.iload_n 2, 1) := by decide +kernel
theorem dX8_fullOf_23 : decode cX8_fullOf 23 = .ok (.invokevirtual 80, 3) := by decide +kernel
theorem dX8_fullOf_26 : decode cX8_fullOf 26 = .ok (.goto 4, 3) := by decide +kernel
theorem dX8_fullOf_29 : decode cX8_fullOf 29 = .ok (.iload_n 1, 1) := by decide +kernel
theorem dX8_fullOf_30 : decode cX8_fullOf 30 = .ok (.istore_n 1, 1) := by decide +kernel
theorem dX8_fullOf_31 : decode cX8_fullOf 31 = .ok (.iinc 2 1, 3) := by decide +kernel
theorem dX8_fullOf_34 : decode cX8_fullOf 34 = .ok (.goto (-30), 3) := by decide +kernel
theorem dX8_fullOf_37 : decode cX8_fullOf 37 = .ok (.iload_n 1, 1) := by decide +kernel
theorem dX8_fullOf_38 : decode cX8_fullOf 38 = .ok (.ireturn, 1) := by decide +kernel
theorem dX8_isPlain_0 : decode cX8_isPlain 0 = .ok (.iconst 0, 1) := by decide +kernel
theorem dX8_isPlain_1 : decode cX8_isPlain 1 = .ok (.istore_n 1, 1) := by decide +kernel
theorem dX8_isPlain_2 : decode cX8_isPlain 2 = .ok (.iload_n 1, 1) := by decide +kernel
theorem dX8_isPlain_3 : decode cX8_isPlain 3 = .ok (.aload_n 0, 1) := by decide +kernel
theorem dX8_isPlain_4 : decode cX8_isPlain 4 = .ok (.getfield 57, 3) := by decide +kernel
theorem dX8_isPlain_7 : decode cX8_isPlain 7 = .ok (.if_icmp .ge 52, 3) := by decide +kernel
theorem dX8_isPlain_10 : decode cX8_isPlain 10 = .ok (.iconst 0, 1) := by decide +kernel
theorem dX8_isPlain_11 : decode cX8_isPlain 11 = .ok (.istore_n 2, 1) := by decide +kernel
theorem dX8_isPlain_12 : decode cX8_isPlain 12 = .ok (.iload_n 2, 1) := by decide +kernel
theorem dX8_isPlain_13 : decode cX8_isPlain 13 = .ok (.iload_n 1, 1) := by decide +kernel
theorem dX8_isPlain_14 : decode cX8_isPlain 14 = .ok (.if_icmp .ge 39, 3) := by decide +kernel
theorem dX8_isPlain_17 : decode cX8_isPlain 17 = .ok (.aload_n 0, 1) := by decide +kernel
theorem dX8_isPlain_18 : decode cX8_isPlain 18 = .ok (.iload_n 1, 1) := by decide +kernel
theorem dX8_isPlain_19 : decode cX8_isPlain 19 = .ok (.aload_n 0, 1) := by decide +kernel
theorem dX8_isPlain_20 : decode cX8_isPlain 20 = .ok (.getfield 7, 3) := by decide +kernel
theorem dX8_isPlain_23 : decode cX8_isPlain 23 = .ok (.iload_n 2, 1) := by decide +kernel
theorem dX8_isPlain_24 : decode cX8_isPlain 24 = .ok (.iaload, 1) := by decide +kernel
theorem dX8_isPlain_25 : decode cX8_isPlain 25 = .ok (.invokevirtual 64, 3) := by decide +kernel
theorem dX8_isPlain_28 : decode cX8_isPlain 28 = .ok (.ifCond .eq 19, 3) := by decide +kernel
theorem dX8_isPlain_31 : decode cX8_isPlain 31 = .ok (.aload_n 0, 1) := by decide +kernel
theorem dX8_isPlain_32 : decode cX8_isPlain 32 = .ok (.iload_n 1, 1) := by decide +kernel
theorem dX8_isPlain_33 : decode cX8_isPlain 33 = .ok (.aload_n 0, 1) := by decide +kernel
theorem dX8_isPlain_34 : decode cX8_isPlain 34 = .ok (.getfield 13, 3) := by decide +kernel
theorem dX8_isPlain_37 : decode cX8_isPlain 37 = .ok (.iload_n 2, 1) := by decide +kernel
theorem dX8_isPlain_38 : decode cX8_isPlain 38 = .ok (.iaload, 1) := by decide +kernel
theorem dX8_isPlain_39 : decode cX8_isPlain 39 = .ok (.invokevirtual 64, 3) := by decide +kernel
theorem dX8_isPlain_42 : decode cX8_isPlain 42 = .ok (.ifCond .eq 5, 3) := by decide +kernel
theorem dX8_isPlain_45 : decode cX8_isPlain 45 = .ok (.iconst 0, 1) := by decide +kernel
theorem dX8_isPlain_46 : decode cX8_isPlain 46 = .ok (.ireturn, 1) := by decide +kernel
theorem dX8_isPlain_47 : decode cX8_isPlain 47 = .ok (.iinc 2 1, 3) := by decide +kernel
theorem dX8_isPlain_50 : decode cX8_isPlain 50 = .ok (.goto (-38), 3) := by decide +kernel
theorem dX8_isPlain_53 : decode cX8_isPlain 53 = .ok (.iinc 1 1, 3) := by decide +kernel
theorem dX8_isPlain_56 : decode cX8_isPlain 56 = .ok (.goto (-54), 3) := by decide +kernel
theorem dX8_isPlain_59 : decode cX8_isPlain 59 = .ok (.iconst 1, 1) := by decide +kernel
theorem dX8_isPlain_60 : decode cX8_isPlain 60 = .ok (.ireturn, 1) := by decide +kernel
theorem dX8_between_0 : decode cX8_between 0 = .ok (.iconst 0, 1) := by decide +kernel
theorem dX8_between_1 : decode cX8_between 1 = .ok (.istore_n 3, 1) := by decide +kernel
theorem dX8_between_2 : decode cX8_between 2 = .ok (.iload_n 3, 1) := by decide +kernel
theorem dX8_between_3 : decode cX8_between 3 = .ok (.aload_n 0, 1) := by decide +kernel
theorem dX8_between_4 : decode cX8_between 4 = .ok (.getfield 57, 3) := by decide +kernel
theorem dX8_between_7 : decode cX8_between 7 = .ok (.if_icmp .ge 29, 3) := by decide +kernel
theorem dX8_between_10 : decode cX8_between 10 = .ok (.aload_n 0, 1) := by decide +kernel
theorem dX8_between_11 : decode cX8_between 11 = .ok (.iload_n 3, 1) := by decide +kernel
theorem dX8_between_12 : decode cX8_between 12 = .ok (.iload_n 1, 1) := by decide +kernel
theorem dX8_between_13 : decode cX8_between 13 = .ok (.invokevirtual 64, 3) := by decide +kernel
theorem dX8_between_16 : decode cX8_between 16 = .ok (.ifCond .eq 14, 3) := by decide +kernel
theorem dX8_between_19 : decode cX8_between 19 = .ok (.aload_n 0, 1) := by decide +kernel
theorem dX8_between_20 : decode cX8_between 20 = .ok (.iload_n 3, 1) := by decide +kernel
theorem dX8_between_21 : decode cX8_between 21 = .ok (.iload_n 2, 1) := by decide +kernel
theorem dX8_between_22 : decode cX8_between 22 = .ok (.invokevirtual 64, 3) := by decide +kernel
theorem dX8_between_25 : decode cX8_between 25 = .ok (.ifCond .eq 5, 3) := by decide +kernel
theorem dX8_between_28 : decode cX8_between 28 = .ok (.iload_n 3, 1) := by decide +kernel
theorem dX8_between_29 : decode cX8_between 29 = .ok (.ireturn, 1) := by decide +kernel
theorem dX8_between_30 : decode cX8_between 30 = .ok (.iinc 3 1, 3) := by decide +kernel
theorem dX8_between_33 : decode cX8_between 33 = .ok (.goto (-31), 3) := by decide +kernel
theorem dX8_between_36 : decode cX8_between 36 = .ok (.iconst (-1), 1) := by decide +kernel
theorem dX8_between_37 : decode cX8_between 37 = .ok (.ireturn, 1) := by decide +kernel
theorem dX8_other_0 : decode cX8_other 0 = .ok (.aload_n 0, 1) := by decide +kernel
theorem dX8_other_1 : decode cX8_other 1 = .ok (.getfield 7, 3) := by decide +kernel
theorem dX8_other_4 : decode cX8_other 4 = .ok (.iload_n 1, 1) := by decide +kernel
theorem dX8_other_5 : decode cX8_other 5 = .ok (.iaload, 1) := by decide +kernel
theorem dX8_other_6 : decode cX8_other 6 = .ok (.iload_n 2, 1) := by decide +kernel
theorem dX8_other_7 : decode cX8_other 7 = .ok (.if_icmp .ne 12, 3) := by decide +kernel
theorem dX8_other_10 : decode cX8_other 10 = .ok (.aload_n 0, 1) := by decide +kernel
theorem dX8_other_11 : decode cX8_other 11 = .ok (.getfield 13, 3) := by decide +kernel
theorem dX8_other_14 : decode cX8_other 14 = .ok (.iload_n 1, 1) := by decide +kernel
theorem dX8_other_15 : decode cX8_other 15 = .ok (.iaload, 1) := by decide +kernel
theorem dX8_other_16 : decode cX8_other 16 = .ok (.goto 9, 3) := by decide +kernel
theorem dX8_other_19 : decode cX8_other 19 = .ok (.aload_n 0, 1) := by decide +kernel
theorem dX8_other_20 : decode cX8_other 20 = .ok (.getfield 7, 3) := by decide +kernel
theorem dX8_other_23 : decode cX8_other 23 = .ok (.iload_n 1, 1) := by decide +kernel
theorem dX8_other_24 : decode cX8_other 24 = .ok (.iaload, 1) := by decide +kernel
theorem dX8_other_25 : decode cX8_other 25 = .ok (.ireturn, 1) := by decide +kernel
theorem dX8_turned_0 : decode cX8_turned 0 = .ok (.iconst 0, 1) := by decide +kernel
theorem dX8_turned_1 : decode cX8_turned 1 = .ok (.istore 4, 2) := by decide +kernel
theorem dX8_turned_3 : decode cX8_turned 3 = .ok (.iload 4, 2) := by decide +kernel
theorem dX8_turned_5 : decode cX8_turned 5 = .ok (.iload_n 2, 1) := by decide +kernel
theorem dX8_turned_6 : decode cX8_turned 6 = .ok (.iconst 1, 1) := by decide +kernel
theorem dX8_turned_7 : decode cX8_turned 7 = .ok (.isub, 1) := by decide +kernel
theorem dX8_turned_8 : decode cX8_turned 8 = .ok (.if_icmp .ge 45, 3) := by decide +kernel
theorem dX8_turned_11 : decode cX8_turned 11 = .ok (.aload_n 0, 1) := by decide +kernel
theorem dX8_turned_12 : decode cX8_turned 12 = .ok (.getfield 16, 3) := by decide +kernel
theorem dX8_turned_15 : decode cX8_turned 15 = .ok (.aload_n 0, 1) := by decide +kernel
theorem dX8_turned_16 : decode cX8_turned 16 = .ok (.iload_n 1, 1) := by decide +kernel
theorem dX8_turned_17 : decode cX8_turned 17 = .ok (.aload_n 0, 1) := by decide +kernel
theorem dX8_turned_18 : decode cX8_turned 18 = .ok (.getfield 32, 3) := by decide +kernel
theorem dX8_turned_21 : decode cX8_turned 21 = .ok (.iload 4, 2) := by decide +kernel
theorem dX8_turned_23 : decode cX8_turned 23 = .ok (.iaload, 1) := by decide +kernel
theorem dX8_turned_24 : decode cX8_turned 24 = .ok (.invokevirtual 114, 3) := by decide +kernel
theorem dX8_turned_27 : decode cX8_turned 27 = .ok (.aload_n 0, 1) := by decide +kernel
theorem dX8_turned_28 : decode cX8_turned 28 = .ok (.getfield 16, 3) := by decide +kernel
theorem dX8_turned_31 : decode cX8_turned 31 = .ok (.aload_n 0, 1) := by decide +kernel
theorem dX8_turned_32 : decode cX8_turned 32 = .ok (.iload_n 1, 1) := by decide +kernel
theorem dX8_turned_33 : decode cX8_turned 33 = .ok (.aload_n 0, 1) := by decide +kernel
theorem dX8_turned_34 : decode cX8_turned 34 = .ok (.getfield 32, 3) := by decide +kernel
theorem dX8_turned_37 : decode cX8_turned 37 = .ok (.iload 4, 2) := by decide +kernel
theorem dX8_turned_39 : decode cX8_turned 39 = .ok (.iconst 1, 1) := by decide +kernel
theorem dX8_turned_40 : decode cX8_turned 40 = .ok (.iadd, 1) := by decide +kernel
theorem dX8_turned_41 : decode cX8_turned 41 = .ok (.iaload, 1) := by decide +kernel
theorem dX8_turned_42 : decode cX8_turned 42 = .ok (.invokevirtual 114, 3) := by decide +kernel
theorem dX8_turned_45 : decode cX8_turned 45 = .ok (.iaload, 1) := by decide +kernel
theorem dX8_turned_46 : decode cX8_turned 46 = .ok (.iastore, 1) := by decide +kernel
theorem dX8_turned_47 : decode cX8_turned 47 = .ok (.iinc 4 1, 3) := by decide +kernel
theorem dX8_turned_50 : decode cX8_turned 50 = .ok (.goto (-47), 3) := by decide +kernel
theorem dX8_turned_53 : decode cX8_turned 53 = .ok (.aload_n 0, 1) := by decide +kernel
theorem dX8_turned_54 : decode cX8_turned 54 = .ok (.getfield 16, 3) := by decide +kernel
theorem dX8_turned_57 : decode cX8_turned 57 = .ok (.aload_n 0, 1) := by decide +kernel
theorem dX8_turned_58 : decode cX8_turned 58 = .ok (.iload_n 1, 1) := by decide +kernel
theorem dX8_turned_59 : decode cX8_turned 59 = .ok (.aload_n 0, 1) := by decide +kernel
theorem dX8_turned_60 : decode cX8_turned 60 = .ok (.getfield 32, 3) := by decide +kernel
theorem dX8_turned_63 : decode cX8_turned 63 = .ok (.iload_n 2, 1) := by decide +kernel
theorem dX8_turned_64 : decode cX8_turned 64 = .ok (.iconst 1, 1) := by decide +kernel
theorem dX8_turned_65 : decode cX8_turned 65 = .ok (.isub, 1) := by decide +kernel
theorem dX8_turned_66 : decode cX8_turned 66 = .ok (.iaload, 1) := by decide +kernel
theorem dX8_turned_67 : decode cX8_turned 67 = .ok (.invokevirtual 114, 3) := by decide +kernel
theorem dX8_turned_70 : decode cX8_turned 70 = .ok (.iload_n 3, 1) := by decide +kernel
theorem dX8_turned_71 : decode cX8_turned 71 = .ok (.iastore, 1) := by decide +kernel
theorem dX8_turned_72 : decode cX8_turned 72 = .ok (.return_, 1) := by decide +kernel
theorem dX8_mend_0 : decode cX8_mend 0 = .ok (.aload_n 0, 1) := by decide +kernel
theorem dX8_mend_1 : decode cX8_mend 1 = .ok (.iload_n 1, 1) := by decide +kernel
theorem dX8_mend_2 : decode cX8_mend 2 = .ok (.invokevirtual 72, 3) := by decide +kernel
theorem dX8_mend_5 : decode cX8_mend 5 = .ok (.ifCond .eq 26, 3) := by decide +kernel
theorem dX8_mend_8 : decode cX8_mend 8 = .ok (.aload_n 0, 1) := by decide +kernel
theorem dX8_mend_9 : decode cX8_mend 9 = .ok (.getfield 16, 3) := by decide +kernel
theorem dX8_mend_12 : decode cX8_mend 12 = .ok (.iload_n 1, 1) := by decide +kernel
theorem dX8_mend_13 : decode cX8_mend 13 = .ok (.iaload, 1) := by decide +kernel
theorem dX8_mend_14 : decode cX8_mend 14 = .ok (.ifCond .ge 17, 3) := by decide +kernel
theorem dX8_mend_17 : decode cX8_mend 17 = .ok (.aload_n 0, 1) := by decide +kernel
theorem dX8_mend_18 : decode cX8_mend 18 = .ok (.invokevirtual 97, 3) := by decide +kernel
theorem dX8_mend_21 : decode cX8_mend 21 = .ok (.ifCond .ge 10, 3) := by decide +kernel
theorem dX8_mend_24 : decode cX8_mend 24 = .ok (.aload_n 0, 1) := by decide +kernel
theorem dX8_mend_25 : decode cX8_mend 25 = .ok (.invokevirtual 117, 3) := by decide +kernel
theorem dX8_mend_28 : decode cX8_mend 28 = .ok (.ifCond .ne 6, 3) := by decide +kernel
theorem dX8_mend_31 : decode cX8_mend 31 = .ok (.bipush (-2), 2) := by decide +kernel
theorem dX8_mend_33 : decode cX8_mend 33 = .ok (.ireturn, 1) := by decide +kernel
theorem dX8_mend_34 : decode cX8_mend 34 = .ok (.iconst 0, 1) := by decide +kernel
theorem dX8_mend_35 : decode cX8_mend 35 = .ok (.istore_n 2, 1) := by decide +kernel
theorem dX8_mend_36 : decode cX8_mend 36 = .ok (.iload_n 2, 1) := by decide +kernel
theorem dX8_mend_37 : decode cX8_mend 37 = .ok (.aload_n 0, 1) := by decide +kernel
theorem dX8_mend_38 : decode cX8_mend 38 = .ok (.getfield 57, 3) := by decide +kernel
theorem dX8_mend_41 : decode cX8_mend 41 = .ok (.if_icmp .ge 25, 3) := by decide +kernel
theorem dX8_mend_44 : decode cX8_mend 44 = .ok (.aload_n 0, 1) := by decide +kernel
theorem dX8_mend_45 : decode cX8_mend 45 = .ok (.getfield 16, 3) := by decide +kernel
theorem dX8_mend_48 : decode cX8_mend 48 = .ok (.iload_n 2, 1) := by decide +kernel
theorem dX8_mend_49 : decode cX8_mend 49 = .ok (.iaload, 1) := by decide +kernel
theorem dX8_mend_50 : decode cX8_mend 50 = .ok (.aload_n 0, 1) := by decide +kernel
theorem dX8_mend_51 : decode cX8_mend 51 = .ok (.invokevirtual 121, 3) := by decide +kernel
theorem dX8_mend_54 : decode cX8_mend 54 = .ok (.if_icmp .le 6, 3) := by decide +kernel
theorem dX8_mend_57 : decode cX8_mend 57 = .ok (.bipush (-2), 2) := by decide +kernel
theorem dX8_mend_59 : decode cX8_mend 59 = .ok (.ireturn, 1) := by decide +kernel
theorem dX8_mend_60 : decode cX8_mend 60 = .ok (.iinc 2 1, 3) := by decide +kernel
theorem dX8_mend_63 : decode cX8_mend 63 = .ok (.goto (-27), 3) := by decide +kernel
theorem dX8_mend_66 : decode cX8_mend 66 = .ok (.aload_n 0, 1) := by decide +kernel
theorem dX8_mend_67 : decode cX8_mend 67 = .ok (.getfield 7, 3) := by decide +kernel
theorem dX8_mend_70 : decode cX8_mend 70 = .ok (.iload_n 1, 1) := by decide +kernel
theorem dX8_mend_71 : decode cX8_mend 71 = .ok (.iaload, 1) := by decide +kernel
theorem dX8_mend_72 : decode cX8_mend 72 = .ok (.istore_n 2, 1) := by decide +kernel
theorem dX8_mend_73 : decode cX8_mend 73 = .ok (.iconst 1, 1) := by decide +kernel
theorem dX8_mend_74 : decode cX8_mend 74 = .ok (.istore_n 3, 1) := by decide +kernel
theorem dX8_mend_75 : decode cX8_mend 75 = .ok (.aload_n 0, 1) := by decide +kernel
theorem dX8_mend_76 : decode cX8_mend 76 = .ok (.getfield 32, 3) := by decide +kernel
theorem dX8_mend_79 : decode cX8_mend 79 = .ok (.iconst 0, 1) := by decide +kernel
theorem dX8_mend_80 : decode cX8_mend 80 = .ok (.aload_n 0, 1) := by decide +kernel
theorem dX8_mend_81 : decode cX8_mend 81 = .ok (.getfield 13, 3) := by decide +kernel
theorem dX8_mend_84 : decode cX8_mend 84 = .ok (.iload_n 1, 1) := by decide +kernel
theorem dX8_mend_85 : decode cX8_mend 85 = .ok (.iaload, 1) := by decide +kernel
theorem dX8_mend_86 : decode cX8_mend 86 = .ok (.iastore, 1) := by decide +kernel
theorem dX8_mend_87 : decode cX8_mend 87 = .ok (.aload_n 0, 1) := by decide +kernel
theorem dX8_mend_88 : decode cX8_mend 88 = .ok (.aload_n 0, 1) := by decide +kernel
theorem dX8_mend_89 : decode cX8_mend 89 = .ok (.getfield 32, 3) := by decide +kernel
theorem dX8_mend_92 : decode cX8_mend 92 = .ok (.iload_n 3, 1) := by decide +kernel
theorem dX8_mend_93 : decode cX8_mend 93 = .ok (.iconst 1, 1) := by decide +kernel
theorem dX8_mend_94 : decode cX8_mend 94 = .ok (.isub, 1) := by decide +kernel
theorem dX8_mend_95 : decode cX8_mend 95 = .ok (.iaload, 1) := by decide +kernel
theorem dX8_mend_96 : decode cX8_mend 96 = .ok (.invokevirtual 88, 3) := by decide +kernel
theorem dX8_mend_99 : decode cX8_mend 99 = .ok (.istore 4, 2) := by decide +kernel
theorem dX8_mend_101 : decode cX8_mend 101 = .ok (.aload_n 0, 1) := by decide +kernel
theorem dX8_mend_102 : decode cX8_mend 102 = .ok (.iload_n 2, 1) := by decide +kernel
theorem dX8_mend_103 : decode cX8_mend 103 = .ok (.iload 4, 2) := by decide +kernel
theorem dX8_mend_105 : decode cX8_mend 105 = .ok (.invokevirtual 84, 3) := by decide +kernel
theorem dX8_mend_108 : decode cX8_mend 108 = .ok (.istore 5, 2) := by decide +kernel
theorem dX8_mend_110 : decode cX8_mend 110 = .ok (.iload 5, 2) := by decide +kernel
theorem dX8_mend_112 : decode cX8_mend 112 = .ok (.ifCond .ge 18, 3) := by decide +kernel
theorem dX8_mend_115 : decode cX8_mend 115 = .ok (.aload_n 0, 1) := by decide +kernel
theorem dX8_mend_116 : decode cX8_mend 116 = .ok (.iload_n 2, 1) := by decide +kernel
theorem dX8_mend_117 : decode cX8_mend 117 = .ok (.iload_n 3, 1) := by decide +kernel
theorem dX8_mend_118 : decode cX8_mend 118 = .ok (.iload 4, 2) := by decide +kernel
theorem dX8_mend_120 : decode cX8_mend 120 = .ok (.invokevirtual 124, 3) := by decide +kernel
theorem dX8_mend_123 : decode cX8_mend 123 = .ok (.aload_n 0, 1) := by decide +kernel
theorem dX8_mend_124 : decode cX8_mend 124 = .ok (.getfield 16, 3) := by decide +kernel
theorem dX8_mend_127 : decode cX8_mend 127 = .ok (.iload_n 1, 1) := by decide +kernel
theorem dX8_mend_128 : decode cX8_mend 128 = .ok (.iaload, 1) := by decide +kernel
theorem dX8_mend_129 : decode cX8_mend 129 = .ok (.ireturn, 1) := by decide +kernel
theorem dX8_mend_130 : decode cX8_mend 130 = .ok (.aload_n 0, 1) := by decide +kernel
theorem dX8_mend_131 : decode cX8_mend 131 = .ok (.iload 5, 2) := by decide +kernel
theorem dX8_mend_133 : decode cX8_mend 133 = .ok (.iload_n 2, 1) := by decide +kernel
theorem dX8_mend_134 : decode cX8_mend 134 = .ok (.invokevirtual 127, 3) := by decide +kernel
theorem dX8_mend_137 : decode cX8_mend 137 = .ok (.istore 6, 2) := by decide +kernel
theorem dX8_mend_139 : decode cX8_mend 139 = .ok (.iconst 0, 1) := by decide +kernel
theorem dX8_mend_140 : decode cX8_mend 140 = .ok (.istore 7, 2) := by decide +kernel
theorem dX8_mend_142 : decode cX8_mend 142 = .ok (.iload 7, 2) := by decide +kernel
theorem dX8_mend_144 : decode cX8_mend 144 = .ok (.iload_n 3, 1) := by decide +kernel
theorem dX8_mend_145 : decode cX8_mend 145 = .ok (.if_icmp .ge 21, 3) := by decide +kernel
theorem dX8_mend_148 : decode cX8_mend 148 = .ok (.aload_n 0, 1) := by decide +kernel
theorem dX8_mend_149 : decode cX8_mend 149 = .ok (.getfield 32, 3) := by decide +kernel
theorem dX8_mend_152 : decode cX8_mend 152 = .ok (.iload 7, 2) := by decide +kernel
theorem dX8_mend_154 : decode cX8_mend 154 = .ok (.iaload, 1) := by decide +kernel
theorem dX8_mend_155 : decode cX8_mend 155 = .ok (.iload 6, 2) := by decide +kernel
theorem dX8_mend_157 : decode cX8_mend 157 = .ok (.if_icmp .eq 9, 3) := by decide +kernel
theorem dX8_mend_160 : decode cX8_mend 160 = .ok (.iinc 7 1, 3) := by decide +kernel
theorem dX8_mend_163 : decode cX8_mend 163 = .ok (.goto (-21), 3) := by decide +kernel
theorem dX8_mend_166 : decode cX8_mend 166 = .ok (.iload 7, 2) := by decide +kernel
theorem dX8_mend_168 : decode cX8_mend 168 = .ok (.iload_n 3, 1) := by decide +kernel
theorem dX8_mend_169 : decode cX8_mend 169 = .ok (.if_icmp .ne 17, 3) := by decide +kernel
theorem dX8_mend_172 : decode cX8_mend 172 = .ok (.aload_n 0, 1) := by decide +kernel
theorem dX8_mend_173 : decode cX8_mend 173 = .ok (.getfield 32, 3) := by decide +kernel
theorem dX8_mend_176 : decode cX8_mend 176 = .ok (.iload_n 3, 1) := by decide +kernel
theorem dX8_mend_177 : decode cX8_mend 177 = .ok (.iload 6, 2) := by decide +kernel
theorem dX8_mend_179 : decode cX8_mend 179 = .ok (.iastore, 1) := by decide +kernel
theorem dX8_mend_180 : decode cX8_mend 180 = .ok (.iinc 3 1, 3) := by decide +kernel
theorem dX8_mend_183 : decode cX8_mend 183 = .ok (.goto (-96), 3) := by decide +kernel
theorem dX8_mend_186 : decode cX8_mend 186 = .ok (.aload_n 0, 1) := by decide +kernel
theorem dX8_mend_187 : decode cX8_mend 187 = .ok (.getfield 32, 3) := by decide +kernel
theorem dX8_mend_190 : decode cX8_mend 190 = .ok (.iload 7, 2) := by decide +kernel
theorem dX8_mend_192 : decode cX8_mend 192 = .ok (.iconst 1, 1) := by decide +kernel
theorem dX8_mend_193 : decode cX8_mend 193 = .ok (.isub, 1) := by decide +kernel
theorem dX8_mend_194 : decode cX8_mend 194 = .ok (.iaload, 1) := by decide +kernel
theorem dX8_mend_195 : decode cX8_mend 195 = .ok (.istore 8, 2) := by decide +kernel
theorem dX8_mend_197 : decode cX8_mend 197 = .ok (.aload_n 0, 1) := by decide +kernel
theorem dX8_mend_198 : decode cX8_mend 198 = .ok (.iload_n 2, 1) := by decide +kernel
theorem dX8_mend_199 : decode cX8_mend 199 = .ok (.invokevirtual 88, 3) := by decide +kernel
theorem dX8_mend_202 : decode cX8_mend 202 = .ok (.istore 9, 2) := by decide +kernel
theorem dX8_mend_204 : decode cX8_mend 204 = .ok (.aload_n 0, 1) := by decide +kernel
theorem dX8_mend_205 : decode cX8_mend 205 = .ok (.iload 5, 2) := by decide +kernel
theorem dX8_mend_207 : decode cX8_mend 207 = .ok (.iload 4, 2) := by decide +kernel
theorem dX8_mend_209 : decode cX8_mend 209 = .ok (.iload 9, 2) := by decide +kernel
theorem dX8_mend_211 : decode cX8_mend 211 = .ok (.invokevirtual 103, 3) := by decide +kernel
theorem dX8_mend_214 : decode cX8_mend 214 = .ok (.istore 10, 2) := by decide +kernel
theorem dX8_mend_216 : decode cX8_mend 216 = .ok (.iconst 0, 1) := by decide +kernel
theorem dX8_mend_217 : decode cX8_mend 217 = .ok (.istore 11, 2) := by decide +kernel
theorem dX8_mend_219 : decode cX8_mend 219 = .ok (.iconst 0, 1) := by decide +kernel
theorem dX8_mend_220 : decode cX8_mend 220 = .ok (.istore 12, 2) := by decide +kernel
theorem dX8_mend_222 : decode cX8_mend 222 = .ok (.iload 12, 2) := by decide +kernel
theorem dX8_mend_224 : decode cX8_mend 224 = .ok (.aload_n 0, 1) := by decide +kernel
theorem dX8_mend_225 : decode cX8_mend 225 = .ok (.getfield 57, 3) := by decide +kernel
theorem dX8_mend_228 : decode cX8_mend 228 = .ok (.if_icmp .ge 43, 3) := by decide +kernel
theorem dX8_mend_231 : decode cX8_mend 231 = .ok (.iload 11, 2) := by decide +kernel
theorem dX8_mend_233 : decode cX8_mend 233 = .ok (.ifCond .ne 25, 3) := by decide +kernel
theorem dX8_mend_236 : decode cX8_mend 236 = .ok (.iload 10, 2) := by decide +kernel
theorem dX8_mend_238 : decode cX8_mend 238 = .ok (.iload 12, 2) := by decide +kernel
theorem dX8_mend_240 : decode cX8_mend 240 = .ok (.ishr, 1) := by decide +kernel
theorem dX8_mend_241 : decode cX8_mend 241 = .ok (.iconst 1, 1) := by decide +kernel
theorem dX8_mend_242 : decode cX8_mend 242 = .ok (.iand, 1) := by decide +kernel
theorem dX8_mend_243 : decode cX8_mend 243 = .ok (.iconst 1, 1) := by decide +kernel
theorem dX8_mend_244 : decode cX8_mend 244 = .ok (.if_icmp .ne 18, 3) := by decide +kernel
theorem dX8_mend_247 : decode cX8_mend 247 = .ok (.aload_n 0, 1) := by decide +kernel
theorem dX8_mend_248 : decode cX8_mend 248 = .ok (.iload 12, 2) := by decide +kernel
theorem dX8_mend_250 : decode cX8_mend 250 = .ok (.iload 8, 2) := by decide +kernel
theorem dX8_mend_252 : decode cX8_mend 252 = .ok (.invokevirtual 64, 3) := by decide +kernel
theorem dX8_mend_255 : decode cX8_mend 255 = .ok (.ifCond .eq 7, 3) := by decide +kernel
theorem dX8_mend_258 : decode cX8_mend 258 = .ok (.iconst 1, 1) := by decide +kernel
theorem dX8_mend_259 : decode cX8_mend 259 = .ok (.goto 4, 3) := by decide +kernel
theorem dX8_mend_262 : decode cX8_mend 262 = .ok (.iconst 0, 1) := by decide +kernel
theorem dX8_mend_263 : decode cX8_mend 263 = .ok (.istore 11, 2) := by decide +kernel
theorem dX8_mend_265 : decode cX8_mend 265 = .ok (.iinc 12 1, 3) := by decide +kernel
theorem dX8_mend_268 : decode cX8_mend 268 = .ok (.goto (-46), 3) := by decide +kernel
theorem dX8_mend_271 : decode cX8_mend 271 = .ok (.aload_n 0, 1) := by decide +kernel
theorem dX8_mend_272 : decode cX8_mend 272 = .ok (.iload 10, 2) := by decide +kernel
theorem dX8_mend_274 : decode cX8_mend 274 = .ok (.iload 4, 2) := by decide +kernel
theorem dX8_mend_276 : decode cX8_mend 276 = .ok (.iload 9, 2) := by decide +kernel
theorem dX8_mend_278 : decode cX8_mend 278 = .ok (.invokevirtual 110, 3) := by decide +kernel
theorem dX8_mend_281 : decode cX8_mend 281 = .ok (.aload_n 0, 1) := by decide +kernel
theorem dX8_mend_282 : decode cX8_mend 282 = .ok (.iload_n 2, 1) := by decide +kernel
theorem dX8_mend_283 : decode cX8_mend 283 = .ok (.iload 11, 2) := by decide +kernel
theorem dX8_mend_285 : decode cX8_mend 285 = .ok (.ifCond .eq 7, 3) := by decide +kernel
theorem dX8_mend_288 : decode cX8_mend 288 = .ok (.iload_n 3, 1) := by decide +kernel
theorem dX8_mend_289 : decode cX8_mend 289 = .ok (.goto 5, 3) := by decide +kernel
theorem dX8_mend_292 : decode cX8_mend 292 = .ok (.iload 7, 2) := by decide +kernel
theorem dX8_mend_294 : decode cX8_mend 294 = .ok (.iload 4, 2) := by decide +kernel
theorem dX8_mend_296 : decode cX8_mend 296 = .ok (.invokevirtual 124, 3) := by decide +kernel
theorem dX8_mend_299 : decode cX8_mend 299 = .ok (.aload_n 0, 1) := by decide +kernel
theorem dX8_mend_300 : decode cX8_mend 300 = .ok (.getfield 16, 3) := by decide +kernel
theorem dX8_mend_303 : decode cX8_mend 303 = .ok (.iload_n 1, 1) := by decide +kernel
theorem dX8_mend_304 : decode cX8_mend 304 = .ok (.iaload, 1) := by decide +kernel
theorem dX8_mend_305 : decode cX8_mend 305 = .ok (.ireturn, 1) := by decide +kernel
theorem dX8_isTwo_0 : decode cX8_isTwo 0 = .ok (.iconst 0, 1) := by decide +kernel
theorem dX8_isTwo_1 : decode cX8_isTwo 1 = .ok (.istore_n 1, 1) := by decide +kernel
theorem dX8_isTwo_2 : decode cX8_isTwo 2 = .ok (.iload_n 1, 1) := by decide +kernel
theorem dX8_isTwo_3 : decode cX8_isTwo 3 = .ok (.iconst 1, 1) := by decide +kernel
theorem dX8_isTwo_4 : decode cX8_isTwo 4 = .ok (.aload_n 0, 1) := by decide +kernel
theorem dX8_isTwo_5 : decode cX8_isTwo 5 = .ok (.getfield 68, 3) := by decide +kernel
theorem dX8_isTwo_8 : decode cX8_isTwo 8 = .ok (.ishl, 1) := by decide +kernel
theorem dX8_isTwo_9 : decode cX8_isTwo 9 = .ok (.if_icmp .ge 66, 3) := by decide +kernel
theorem dX8_isTwo_12 : decode cX8_isTwo 12 = .ok (.iconst 1, 1) := by decide +kernel
theorem dX8_isTwo_13 : decode cX8_isTwo 13 = .ok (.istore_n 2, 1) := by decide +kernel
theorem dX8_isTwo_14 : decode cX8_isTwo 14 = .ok (.iconst 0, 1) := by decide +kernel
theorem dX8_isTwo_15 : decode cX8_isTwo 15 = .ok (.istore_n 3, 1) := by decide +kernel
theorem dX8_isTwo_16 : decode cX8_isTwo 16 = .ok (.iload_n 3, 1) := by decide +kernel
theorem dX8_isTwo_17 : decode cX8_isTwo 17 = .ok (.aload_n 0, 1) := by decide +kernel
theorem dX8_isTwo_18 : decode cX8_isTwo 18 = .ok (.getfield 57, 3) := by decide +kernel
theorem dX8_isTwo_21 : decode cX8_isTwo 21 = .ok (.if_icmp .ge 42, 3) := by decide +kernel
theorem dX8_isTwo_24 : decode cX8_isTwo 24 = .ok (.iload_n 2, 1) := by decide +kernel
theorem dX8_isTwo_25 : decode cX8_isTwo 25 = .ok (.ifCond .eq 38, 3) := by decide +kernel
theorem dX8_isTwo_28 : decode cX8_isTwo 28 = .ok (.iload_n 1, 1) := by decide +kernel
theorem dX8_isTwo_29 : decode cX8_isTwo 29 = .ok (.aload_n 0, 1) := by decide +kernel
theorem dX8_isTwo_30 : decode cX8_isTwo 30 = .ok (.getfield 7, 3) := by decide +kernel
theorem dX8_isTwo_33 : decode cX8_isTwo 33 = .ok (.iload_n 3, 1) := by decide +kernel
theorem dX8_isTwo_34 : decode cX8_isTwo 34 = .ok (.iaload, 1) := by decide +kernel
theorem dX8_isTwo_35 : decode cX8_isTwo 35 = .ok (.ishr, 1) := by decide +kernel
theorem dX8_isTwo_36 : decode cX8_isTwo 36 = .ok (.iconst 1, 1) := by decide +kernel
theorem dX8_isTwo_37 : decode cX8_isTwo 37 = .ok (.iand, 1) := by decide +kernel
theorem dX8_isTwo_38 : decode cX8_isTwo 38 = .ok (.iload_n 1, 1) := by decide +kernel
theorem dX8_isTwo_39 : decode cX8_isTwo 39 = .ok (.aload_n 0, 1) := by decide +kernel
theorem dX8_isTwo_40 : decode cX8_isTwo 40 = .ok (.getfield 13, 3) := by decide +kernel
theorem dX8_isTwo_43 : decode cX8_isTwo 43 = .ok (.iload_n 3, 1) := by decide +kernel
theorem dX8_isTwo_44 : decode cX8_isTwo 44 = .ok (.iaload, 1) := by decide +kernel
theorem dX8_isTwo_45 : decode cX8_isTwo 45 = .ok (.ishr, 1) := by decide +kernel
theorem dX8_isTwo_46 : decode cX8_isTwo 46 = .ok (.iconst 1, 1) := by decide +kernel
theorem dX8_isTwo_47 : decode cX8_isTwo 47 = .ok (.iand, 1) := by decide +kernel
theorem dX8_isTwo_48 : decode cX8_isTwo 48 = .ok (.if_icmp .eq 7, 3) := by decide +kernel
theorem dX8_isTwo_51 : decode cX8_isTwo 51 = .ok (.iconst 1, 1) := by decide +kernel
theorem dX8_isTwo_52 : decode cX8_isTwo 52 = .ok (.goto 4, 3) := by decide +kernel
theorem dX8_isTwo_55 : decode cX8_isTwo 55 = .ok (.iconst 0, 1) := by decide +kernel
theorem dX8_isTwo_56 : decode cX8_isTwo 56 = .ok (.istore_n 2, 1) := by decide +kernel
theorem dX8_isTwo_57 : decode cX8_isTwo 57 = .ok (.iinc 3 1, 3) := by decide +kernel
theorem dX8_isTwo_60 : decode cX8_isTwo 60 = .ok (.goto (-44), 3) := by decide +kernel
theorem dX8_isTwo_63 : decode cX8_isTwo 63 = .ok (.iload_n 2, 1) := by decide +kernel
theorem dX8_isTwo_64 : decode cX8_isTwo 64 = .ok (.ifCond .eq 5, 3) := by decide +kernel
