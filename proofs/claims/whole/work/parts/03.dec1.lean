theorem dX0_init_0 : decode cX0_init 0 = .ok (.aload_n 0, 1) := by decide +kernel
theorem dX0_init_1 : decode cX0_init 1 = .ok (.invokespecial 3, 3) := by decide +kernel
theorem dX0_init_4 : decode cX0_init 4 = .ok (.aload_n 0, 1) := by decide +kernel
theorem dX0_init_5 : decode cX0_init 5 = .ok (.bipush 16, 2) := by decide +kernel
theorem dX0_init_7 : decode cX0_init 7 = .ok (.newarray .int, 2) := by decide +kernel
theorem dX0_init_9 : decode cX0_init 9 = .ok (.putfield 9, 3) := by decide +kernel
theorem dX0_init_12 : decode cX0_init 12 = .ok (.aload_n 0, 1) := by decide +kernel
theorem dX0_init_13 : decode cX0_init 13 = .ok (.aload_n 1, 1) := by decide +kernel
theorem dX0_init_14 : decode cX0_init 14 = .ok (.putfield 15, 3) := by decide +kernel
theorem dX0_init_17 : decode cX0_init 17 = .ok (.aload_n 0, 1) := by decide +kernel
theorem dX0_init_18 : decode cX0_init 18 = .ok (.iload_n 2, 1) := by decide +kernel
theorem dX0_init_19 : decode cX0_init 19 = .ok (.putfield 19, 3) := by decide +kernel
theorem dX0_init_22 : decode cX0_init 22 = .ok (.return_, 1) := by decide +kernel
theorem dX0_makeEven_0 : decode cX0_makeEven 0 = .ok (.iconst 0, 1) := by decide +kernel
theorem dX0_makeEven_1 : decode cX0_makeEven 1 = .ok (.istore_n 1, 1) := by decide +kernel
theorem dX0_makeEven_2 : decode cX0_makeEven 2 = .ok (.iconst 0, 1) := by decide +kernel
theorem dX0_makeEven_3 : decode cX0_makeEven 3 = .ok (.istore_n 2, 1) := by decide +kernel
theorem dX0_makeEven_4 : decode cX0_makeEven 4 = .ok (.iload_n 2, 1) := by decide +kernel
theorem dX0_makeEven_5 : decode cX0_makeEven 5 = .ok (.sipush 300, 3) := by decide +kernel
theorem dX0_makeEven_8 : decode cX0_makeEven 8 = .ok (.if_icmp .ge 65, 3) := by decide +kernel
theorem dX0_makeEven_11 : decode cX0_makeEven 11 = .ok (.aload_n 0, 1) := by decide +kernel
theorem dX0_makeEven_12 : decode cX0_makeEven 12 = .ok (.invokevirtual 23, 3) := by decide +kernel
theorem dX0_makeEven_15 : decode cX0_makeEven 15 = .ok (.aload_n 0, 1) := by decide +kernel
theorem dX0_makeEven_16 : decode cX0_makeEven 16 = .ok (.invokevirtual 26, 3) := by decide +kernel
theorem dX0_makeEven_19 : decode cX0_makeEven 19 = .ok (.istore_n 3, 1) := by decide +kernel
theorem dX0_makeEven_20 : decode cX0_makeEven 20 = .ok (.aload_n 0, 1) := by decide +kernel
theorem dX0_makeEven_21 : decode cX0_makeEven 21 = .ok (.invokevirtual 30, 3) := by decide +kernel
theorem dX0_makeEven_24 : decode cX0_makeEven 24 = .ok (.istore 4, 2) := by decide +kernel
theorem dX0_makeEven_26 : decode cX0_makeEven 26 = .ok (.aload_n 0, 1) := by decide +kernel
theorem dX0_makeEven_27 : decode cX0_makeEven 27 = .ok (.getfield 9, 3) := by decide +kernel
theorem dX0_makeEven_30 : decode cX0_makeEven 30 = .ok (.iload_n 3, 1) := by decide +kernel
theorem dX0_makeEven_31 : decode cX0_makeEven 31 = .ok (.iaload, 1) := by decide +kernel
theorem dX0_makeEven_32 : decode cX0_makeEven 32 = .ok (.aload_n 0, 1) := by decide +kernel
theorem dX0_makeEven_33 : decode cX0_makeEven 33 = .ok (.getfield 9, 3) := by decide +kernel
theorem dX0_makeEven_36 : decode cX0_makeEven 36 = .ok (.iload 4, 2) := by decide +kernel
theorem dX0_makeEven_38 : decode cX0_makeEven 38 = .ok (.iaload, 1) := by decide +kernel
theorem dX0_makeEven_39 : decode cX0_makeEven 39 = .ok (.isub, 1) := by decide +kernel
theorem dX0_makeEven_40 : decode cX0_makeEven 40 = .ok (.iconst 2, 1) := by decide +kernel
theorem dX0_makeEven_41 : decode cX0_makeEven 41 = .ok (.if_icmp .ge 6, 3) := by decide +kernel
theorem dX0_makeEven_44 : decode cX0_makeEven 44 = .ok (.goto 29, 3) := by decide +kernel
theorem dX0_makeEven_47 : decode cX0_makeEven 47 = .ok (.aload_n 0, 1) := by decide +kernel
theorem dX0_makeEven_48 : decode cX0_makeEven 48 = .ok (.getfield 15, 3) := by decide +kernel
theorem dX0_makeEven_51 : decode cX0_makeEven 51 = .ok (.aload_n 0, 1) := by decide +kernel
theorem dX0_makeEven_52 : decode cX0_makeEven 52 = .ok (.iload_n 3, 1) := by decide +kernel
theorem dX0_makeEven_53 : decode cX0_makeEven 53 = .ok (.iload 4, 2) := by decide +kernel
theorem dX0_makeEven_55 : decode cX0_makeEven 55 = .ok (.invokevirtual 33, 3) := by decide +kernel
theorem dX0_makeEven_58 : decode cX0_makeEven 58 = .ok (.iload_n 3, 1) := by decide +kernel
theorem dX0_makeEven_59 : decode cX0_makeEven 59 = .ok (.iload 4, 2) := by decide +kernel
theorem dX0_makeEven_61 : decode cX0_makeEven 61 = .ok (.invokevirtual 37, 3) := by decide +kernel
theorem dX0_makeEven_64 : decode cX0_makeEven 64 = .ok (.iinc 1 1, 3) := by decide +kernel
theorem dX0_makeEven_67 : decode cX0_makeEven 67 = .ok (.iinc 2 1, 3) := by decide +kernel
theorem dX0_makeEven_70 : decode cX0_makeEven 70 = .ok (.goto (-66), 3) := by decide +kernel
theorem dX0_makeEven_73 : decode cX0_makeEven 73 = .ok (.iload_n 1, 1) := by decide +kernel
theorem dX0_makeEven_74 : decode cX0_makeEven 74 = .ok (.ireturn, 1) := by decide +kernel
theorem dX0_countNumbers_0 : decode cX0_countNumbers 0 = .ok (.iconst 0, 1) := by decide +kernel
theorem dX0_countNumbers_1 : decode cX0_countNumbers 1 = .ok (.istore_n 1, 1) := by decide +kernel
theorem dX0_countNumbers_2 : decode cX0_countNumbers 2 = .ok (.iload_n 1, 1) := by decide +kernel
theorem dX0_countNumbers_3 : decode cX0_countNumbers 3 = .ok (.aload_n 0, 1) := by decide +kernel
theorem dX0_countNumbers_4 : decode cX0_countNumbers 4 = .ok (.getfield 19, 3) := by decide +kernel
theorem dX0_countNumbers_7 : decode cX0_countNumbers 7 = .ok (.if_icmp .ge 26, 3) := by decide +kernel
theorem dX0_countNumbers_10 : decode cX0_countNumbers 10 = .ok (.aload_n 0, 1) := by decide +kernel
theorem dX0_countNumbers_11 : decode cX0_countNumbers 11 = .ok (.getfield 9, 3) := by decide +kernel
theorem dX0_countNumbers_14 : decode cX0_countNumbers 14 = .ok (.iload_n 1, 1) := by decide +kernel
theorem dX0_countNumbers_15 : decode cX0_countNumbers 15 = .ok (.aload_n 0, 1) := by decide +kernel
theorem dX0_countNumbers_16 : decode cX0_countNumbers 16 = .ok (.getfield 15, 3) := by decide +kernel
theorem dX0_countNumbers_19 : decode cX0_countNumbers 19 = .ok (.iload_n 1, 1) := by decide +kernel
theorem dX0_countNumbers_20 : decode cX0_countNumbers 20 = .ok (.invokevirtual 43, 3) := by decide +kernel
theorem dX0_countNumbers_23 : decode cX0_countNumbers 23 = .ok (.invokestatic 47, 3) := by decide +kernel
theorem dX0_countNumbers_26 : decode cX0_countNumbers 26 = .ok (.iastore, 1) := by decide +kernel
theorem dX0_countNumbers_27 : decode cX0_countNumbers 27 = .ok (.iinc 1 1, 3) := by decide +kernel
theorem dX0_countNumbers_30 : decode cX0_countNumbers 30 = .ok (.goto (-28), 3) := by decide +kernel
theorem dX0_countNumbers_33 : decode cX0_countNumbers 33 = .ok (.return_, 1) := by decide +kernel
theorem dX0_leastOfMost_0 : decode cX0_leastOfMost 0 = .ok (.iconst 0, 1) := by decide +kernel
theorem dX0_leastOfMost_1 : decode cX0_leastOfMost 1 = .ok (.istore_n 1, 1) := by decide +kernel
theorem dX0_leastOfMost_2 : decode cX0_leastOfMost 2 = .ok (.iconst 1, 1) := by decide +kernel
theorem dX0_leastOfMost_3 : decode cX0_leastOfMost 3 = .ok (.istore_n 2, 1) := by decide +kernel
theorem dX0_leastOfMost_4 : decode cX0_leastOfMost 4 = .ok (.iload_n 2, 1) := by decide +kernel
theorem dX0_leastOfMost_5 : decode cX0_leastOfMost 5 = .ok (.aload_n 0, 1) := by decide +kernel
theorem dX0_leastOfMost_6 : decode cX0_leastOfMost 6 = .ok (.getfield 19, 3) := by decide +kernel
theorem dX0_leastOfMost_9 : decode cX0_leastOfMost 9 = .ok (.if_icmp .ge 26, 3) := by decide +kernel
theorem dX0_leastOfMost_12 : decode cX0_leastOfMost 12 = .ok (.aload_n 0, 1) := by decide +kernel
theorem dX0_leastOfMost_13 : decode cX0_leastOfMost 13 = .ok (.getfield 9, 3) := by decide +kernel
theorem dX0_leastOfMost_16 : decode cX0_leastOfMost 16 = .ok (.iload_n 2, 1) := by decide +kernel
theorem dX0_leastOfMost_17 : decode cX0_leastOfMost 17 = .ok (.iaload, 1) := by decide +kernel
theorem dX0_leastOfMost_18 : decode cX0_leastOfMost 18 = .ok (.aload_n 0, 1) := by decide +kernel
theorem dX0_leastOfMost_19 : decode cX0_leastOfMost 19 = .ok (.getfield 9, 3) := by decide +kernel
theorem dX0_leastOfMost_22 : decode cX0_leastOfMost 22 = .ok (.iload_n 1, 1) := by decide +kernel
theorem dX0_leastOfMost_23 : decode cX0_leastOfMost 23 = .ok (.iaload, 1) := by decide +kernel
theorem dX0_leastOfMost_24 : decode cX0_leastOfMost 24 = .ok (.if_icmp .le 5, 3) := by decide +kernel
theorem dX0_leastOfMost_27 : decode cX0_leastOfMost 27 = .ok (.iload_n 2, 1) := by decide +kernel
theorem dX0_leastOfMost_28 : decode cX0_leastOfMost 28 = .ok (.istore_n 1, 1) := by decide +kernel
theorem dX0_leastOfMost_29 : decode cX0_leastOfMost 29 = .ok (.iinc 2 1, 3) := by decide +kernel
theorem dX0_leastOfMost_32 : decode cX0_leastOfMost 32 = .ok (.goto (-28), 3) := by decide +kernel
theorem dX0_leastOfMost_35 : decode cX0_leastOfMost 35 = .ok (.iload_n 1, 1) := by decide +kernel
theorem dX0_leastOfMost_36 : decode cX0_leastOfMost 36 = .ok (.ireturn, 1) := by decide +kernel
theorem dX0_leastOfFewest_0 : decode cX0_leastOfFewest 0 = .ok (.iconst 0, 1) := by decide +kernel
theorem dX0_leastOfFewest_1 : decode cX0_leastOfFewest 1 = .ok (.istore_n 1, 1) := by decide +kernel
theorem dX0_leastOfFewest_2 : decode cX0_leastOfFewest 2 = .ok (.iconst 1, 1) := by decide +kernel
theorem dX0_leastOfFewest_3 : decode cX0_leastOfFewest 3 = .ok (.istore_n 2, 1) := by decide +kernel
theorem dX0_leastOfFewest_4 : decode cX0_leastOfFewest 4 = .ok (.iload_n 2, 1) := by decide +kernel
theorem dX0_leastOfFewest_5 : decode cX0_leastOfFewest 5 = .ok (.aload_n 0, 1) := by decide +kernel
theorem dX0_leastOfFewest_6 : decode cX0_leastOfFewest 6 = .ok (.getfield 19, 3) := by decide +kernel
theorem dX0_leastOfFewest_9 : decode cX0_leastOfFewest 9 = .ok (.if_icmp .ge 26, 3) := by decide +kernel
theorem dX0_leastOfFewest_12 : decode cX0_leastOfFewest 12 = .ok (.aload_n 0, 1) := by decide +kernel
theorem dX0_leastOfFewest_13 : decode cX0_leastOfFewest 13 = .ok (.getfield 9, 3) := by decide +kernel
theorem dX0_leastOfFewest_16 : decode cX0_leastOfFewest 16 = .ok (.iload_n 2, 1) := by decide +kernel
theorem dX0_leastOfFewest_17 : decode cX0_leastOfFewest 17 = .ok (.iaload, 1) := by decide +kernel
theorem dX0_leastOfFewest_18 : decode cX0_leastOfFewest 18 = .ok (.aload_n 0, 1) := by decide +kernel
theorem dX0_leastOfFewest_19 : decode cX0_leastOfFewest 19 = .ok (.getfield 9, 3) := by decide +kernel
theorem dX0_leastOfFewest_22 : decode cX0_leastOfFewest 22 = .ok (.iload_n 1, 1) := by decide +kernel
theorem dX0_leastOfFewest_23 : decode cX0_leastOfFewest 23 = .ok (.iaload, 1) := by decide +kernel
theorem dX0_leastOfFewest_24 : decode cX0_leastOfFewest 24 = .ok (.if_icmp .ge 5, 3) := by decide +kernel
theorem dX0_leastOfFewest_27 : decode cX0_leastOfFewest 27 = .ok (.iload_n 2, 1) := by decide +kernel
theorem dX0_leastOfFewest_28 : decode cX0_leastOfFewest 28 = .ok (.istore_n 1, 1) := by decide +kernel
theorem dX0_leastOfFewest_29 : decode cX0_leastOfFewest 29 = .ok (.iinc 2 1, 3) := by decide +kernel
theorem dX0_leastOfFewest_32 : decode cX0_leastOfFewest 32 = .ok (.goto (-28), 3) := by decide +kernel
theorem dX0_leastOfFewest_35 : decode cX0_leastOfFewest 35 = .ok (.iload_n 1, 1) := by decide +kernel
theorem dX0_leastOfFewest_36 : decode cX0_leastOfFewest 36 = .ok (.ireturn, 1) := by decide +kernel
theorem dX0_firstHeavyChain_0 : decode cX0_firstHeavyChain 0 = .ok (.aload_n 0, 1) := by decide +kernel
theorem dX0_firstHeavyChain_1 : decode cX0_firstHeavyChain 1 = .ok (.getfield 15, 3) := by decide +kernel
theorem dX0_firstHeavyChain_4 : decode cX0_firstHeavyChain 4 = .ok (.iload_n 1, 1) := by decide +kernel
theorem dX0_firstHeavyChain_5 : decode cX0_firstHeavyChain 5 = .ok (.invokevirtual 43, 3) := by decide +kernel
theorem dX0_firstHeavyChain_8 : decode cX0_firstHeavyChain 8 = .ok (.istore_n 3, 1) := by decide +kernel
theorem dX0_firstHeavyChain_9 : decode cX0_firstHeavyChain 9 = .ok (.iload_n 3, 1) := by decide +kernel
theorem dX0_firstHeavyChain_10 : decode cX0_firstHeavyChain 10 = .ok (.aload_n 0, 1) := by decide +kernel
theorem dX0_firstHeavyChain_11 : decode cX0_firstHeavyChain 11 = .ok (.getfield 15, 3) := by decide +kernel
theorem dX0_firstHeavyChain_14 : decode cX0_firstHeavyChain 14 = .ok (.iload_n 2, 1) := by decide +kernel
theorem dX0_firstHeavyChain_15 : decode cX0_firstHeavyChain 15 = .ok (.invokevirtual 43, 3) := by decide +kernel
theorem dX0_firstHeavyChain_18 : decode cX0_firstHeavyChain 18 = .ok (.ior, 1) := by decide +kernel
theorem dX0_firstHeavyChain_19 : decode cX0_firstHeavyChain 19 = .ok (.istore 4, 2) := by decide +kernel
theorem dX0_firstHeavyChain_21 : decode cX0_firstHeavyChain 21 = .ok (.iconst 0, 1) := by decide +kernel
theorem dX0_firstHeavyChain_22 : decode cX0_firstHeavyChain 22 = .ok (.istore 5, 2) := by decide +kernel
theorem dX0_firstHeavyChain_24 : decode cX0_firstHeavyChain 24 = .ok (.iload 5, 2) := by decide +kernel
theorem dX0_firstHeavyChain_26 : decode cX0_firstHeavyChain 26 = .ok (.aload_n 0, 1) := by decide +kernel
theorem dX0_firstHeavyChain_27 : decode cX0_firstHeavyChain 27 = .ok (.getfield 15, 3) := by decide +kernel
theorem dX0_firstHeavyChain_30 : decode cX0_firstHeavyChain 30 = .ok (.getfield 52, 3) := by decide +kernel
theorem dX0_firstHeavyChain_33 : decode cX0_firstHeavyChain 33 = .ok (.if_icmp .ge 63, 3) := by decide +kernel
theorem dX0_firstHeavyChain_36 : decode cX0_firstHeavyChain 36 = .ok (.iload 4, 2) := by decide +kernel
theorem dX0_firstHeavyChain_38 : decode cX0_firstHeavyChain 38 = .ok (.iload 5, 2) := by decide +kernel
theorem dX0_firstHeavyChain_40 : decode cX0_firstHeavyChain 40 = .ok (.invokestatic 55, 3) := by decide +kernel
theorem dX0_firstHeavyChain_43 : decode cX0_firstHeavyChain 43 = .ok (.ifCond .eq 47, 3) := by decide +kernel
theorem dX0_firstHeavyChain_46 : decode cX0_firstHeavyChain 46 = .ok (.aload_n 0, 1) := by decide +kernel
theorem dX0_firstHeavyChain_47 : decode cX0_firstHeavyChain 47 = .ok (.getfield 15, 3) := by decide +kernel
theorem dX0_firstHeavyChain_50 : decode cX0_firstHeavyChain 50 = .ok (.iload 5, 2) := by decide +kernel
theorem dX0_firstHeavyChain_52 : decode cX0_firstHeavyChain 52 = .ok (.iload_n 1, 1) := by decide +kernel
theorem dX0_firstHeavyChain_53 : decode cX0_firstHeavyChain 53 = .ok (.iload_n 2, 1) := by decide +kernel
theorem dX0_firstHeavyChain_54 : decode cX0_firstHeavyChain 54 = .ok (.invokevirtual 59, 3) := by decide +kernel
theorem dX0_firstHeavyChain_57 : decode cX0_firstHeavyChain 57 = .ok (.istore 6, 2) := by decide +kernel
theorem dX0_firstHeavyChain_59 : decode cX0_firstHeavyChain 59 = .ok (.iload 6, 2) := by decide +kernel
theorem dX0_firstHeavyChain_61 : decode cX0_firstHeavyChain 61 = .ok (.iload_n 3, 1) := by decide +kernel
theorem dX0_firstHeavyChain_62 : decode cX0_firstHeavyChain 62 = .ok (.iand, 1) := by decide +kernel
theorem dX0_firstHeavyChain_63 : decode cX0_firstHeavyChain 63 = .ok (.invokestatic 47, 3) := by decide +kernel
theorem dX0_firstHeavyChain_66 : decode cX0_firstHeavyChain 66 = .ok (.iload 6, 2) := by decide +kernel
theorem dX0_firstHeavyChain_68 : decode cX0_firstHeavyChain 68 = .ok (.iload_n 3, 1) := by decide +kernel
theorem dX0_firstHeavyChain_69 : decode cX0_firstHeavyChain 69 = .ok (.iconst (-1), 1) := by decide +kernel
theorem dX0_firstHeavyChain_70 : decode cX0_firstHeavyChain 70 = .ok (.ixor, 1) := by decide +kernel
theorem dX0_firstHeavyChain_71 : decode cX0_firstHeavyChain 71 = .ok (.iand, 1) := by decide +kernel
theorem dX0_firstHeavyChain_72 : decode cX0_firstHeavyChain 72 = .ok (.invokestatic 47, 3) := by decide +kernel
theorem dX0_firstHeavyChain_75 : decode cX0_firstHeavyChain 75 = .ok (.if_icmp .le 6, 3) := by decide +kernel
theorem dX0_firstHeavyChain_78 : decode cX0_firstHeavyChain 78 = .ok (.iload 6, 2) := by decide +kernel
theorem dX0_firstHeavyChain_80 : decode cX0_firstHeavyChain 80 = .ok (.ireturn, 1) := by decide +kernel
theorem dX0_firstHeavyChain_81 : decode cX0_firstHeavyChain 81 = .ok (.iload 4, 2) := by decide +kernel
theorem dX0_firstHeavyChain_83 : decode cX0_firstHeavyChain 83 = .ok (.iload 6, 2) := by decide +kernel
theorem dX0_firstHeavyChain_85 : decode cX0_firstHeavyChain 85 = .ok (.iconst (-1), 1) := by decide +kernel
theorem dX0_firstHeavyChain_86 : decode cX0_firstHeavyChain 86 = .ok (.ixor, 1) := by decide +kernel
theorem dX0_firstHeavyChain_87 : decode cX0_firstHeavyChain 87 = .ok (.iand, 1) := by decide +kernel
theorem dX0_firstHeavyChain_88 : decode cX0_firstHeavyChain 88 = .ok (.istore 4, 2) := by decide +kernel
theorem dX0_firstHeavyChain_90 : decode cX0_firstHeavyChain 90 = .ok (.iinc 5 1, 3) := by decide +kernel
theorem dX0_firstHeavyChain_93 : decode cX0_firstHeavyChain 93 = .ok (.goto (-69), 3) := by decide +kernel
theorem dX0_firstHeavyChain_96 : decode cX0_firstHeavyChain 96 = .ok (.iconst 0, 1) := by decide +kernel
theorem dX0_firstHeavyChain_97 : decode cX0_firstHeavyChain 97 = .ok (.ireturn, 1) := by decide +kernel
theorem dX1_init_0 : decode cX1_init 0 = .ok (.aload_n 0, 1) := by decide +kernel
theorem dX1_init_1 : decode cX1_init 1 = .ok (.invokespecial 3, 3) := by decide +kernel
theorem dX1_init_4 : decode cX1_init 4 = .ok (.aload_n 0, 1) := by decide +kernel
theorem dX1_init_5 : decode cX1_init 5 = .ok (.bipush 24, 2) := by decide +kernel
theorem dX1_init_7 : decode cX1_init 7 = .ok (.newarray .int, 2) := by decide +kernel
theorem dX1_init_9 : decode cX1_init 9 = .ok (.putfield 9, 3) := by decide +kernel
theorem dX1_init_12 : decode cX1_init 12 = .ok (.aload_n 0, 1) := by decide +kernel
theorem dX1_init_13 : decode cX1_init 13 = .ok (.aload_n 1, 1) := by decide +kernel
theorem dX1_init_14 : decode cX1_init 14 = .ok (.putfield 15, 3) := by decide +kernel
theorem dX1_init_17 : decode cX1_init 17 = .ok (.aload_n 0, 1) := by decide +kernel
theorem dX1_init_18 : decode cX1_init 18 = .ok (.aload_n 1, 1) := by decide +kernel
theorem dX1_init_19 : decode cX1_init 19 = .ok (.getfield 19, 3) := by decide +kernel
theorem dX1_init_22 : decode cX1_init 22 = .ok (.iload_n 2, 1) := by decide +kernel
theorem dX1_init_23 : decode cX1_init 23 = .ok (.iaload, 1) := by decide +kernel
theorem dX1_init_24 : decode cX1_init 24 = .ok (.putfield 24, 3) := by decide +kernel
theorem dX1_init_27 : decode cX1_init 27 = .ok (.aload_n 0, 1) := by decide +kernel
theorem dX1_init_28 : decode cX1_init 28 = .ok (.getfield 9, 3) := by decide +kernel
theorem dX1_init_31 : decode cX1_init 31 = .ok (.iconst 0, 1) := by decide +kernel
theorem dX1_init_32 : decode cX1_init 32 = .ok (.iload_n 2, 1) := by decide +kernel
theorem dX1_init_33 : decode cX1_init 33 = .ok (.iastore, 1) := by decide +kernel
theorem dX1_init_34 : decode cX1_init 34 = .ok (.aload_n 0, 1) := by decide +kernel
theorem dX1_init_35 : decode cX1_init 35 = .ok (.iconst 1, 1) := by decide +kernel
theorem dX1_init_36 : decode cX1_init 36 = .ok (.putfield 28, 3) := by decide +kernel
theorem dX1_init_39 : decode cX1_init 39 = .ok (.return_, 1) := by decide +kernel
theorem dX1_mendRoad_0 : decode cX1_mendRoad 0 = .ok (.aload_n 0, 1) := by decide +kernel
theorem dX1_mendRoad_1 : decode cX1_mendRoad 1 = .ok (.getfield 15, 3) := by decide +kernel
theorem dX1_mendRoad_4 : decode cX1_mendRoad 4 = .ok (.aload_n 0, 1) := by decide +kernel
theorem dX1_mendRoad_5 : decode cX1_mendRoad 5 = .ok (.getfield 24, 3) := by decide +kernel
theorem dX1_mendRoad_8 : decode cX1_mendRoad 8 = .ok (.invokevirtual 31, 3) := by decide +kernel
theorem dX1_mendRoad_11 : decode cX1_mendRoad 11 = .ok (.istore_n 1, 1) := by decide +kernel
theorem dX1_mendRoad_12 : decode cX1_mendRoad 12 = .ok (.iconst 0, 1) := by decide +kernel
theorem dX1_mendRoad_13 : decode cX1_mendRoad 13 = .ok (.istore_n 2, 1) := by decide +kernel
theorem dX1_mendRoad_14 : decode cX1_mendRoad 14 = .ok (.iload_n 2, 1) := by decide +kernel
theorem dX1_mendRoad_15 : decode cX1_mendRoad 15 = .ok (.bipush 24, 2) := by decide +kernel
theorem dX1_mendRoad_17 : decode cX1_mendRoad 17 = .ok (.if_icmp .ge 85, 3) := by decide +kernel
theorem dX1_mendRoad_20 : decode cX1_mendRoad 20 = .ok (.aload_n 0, 1) := by decide +kernel
theorem dX1_mendRoad_21 : decode cX1_mendRoad 21 = .ok (.getfield 15, 3) := by decide +kernel
theorem dX1_mendRoad_24 : decode cX1_mendRoad 24 = .ok (.aload_n 0, 1) := by decide +kernel
theorem dX1_mendRoad_25 : decode cX1_mendRoad 25 = .ok (.aload_n 0, 1) := by decide +kernel
theorem dX1_mendRoad_26 : decode cX1_mendRoad 26 = .ok (.getfield 28, 3) := by decide +kernel
theorem dX1_mendRoad_29 : decode cX1_mendRoad 29 = .ok (.iconst 1, 1) := by decide +kernel
theorem dX1_mendRoad_30 : decode cX1_mendRoad 30 = .ok (.isub, 1) := by decide +kernel
theorem dX1_mendRoad_31 : decode cX1_mendRoad 31 = .ok (.invokevirtual 35, 3) := by decide +kernel
theorem dX1_mendRoad_34 : decode cX1_mendRoad 34 = .ok (.invokevirtual 31, 3) := by decide +kernel
theorem dX1_mendRoad_37 : decode cX1_mendRoad 37 = .ok (.istore_n 3, 1) := by decide +kernel
theorem dX1_mendRoad_38 : decode cX1_mendRoad 38 = .ok (.aload_n 0, 1) := by decide +kernel
theorem dX1_mendRoad_39 : decode cX1_mendRoad 39 = .ok (.getfield 15, 3) := by decide +kernel
theorem dX1_mendRoad_42 : decode cX1_mendRoad 42 = .ok (.aload_n 0, 1) := by decide +kernel
theorem dX1_mendRoad_43 : decode cX1_mendRoad 43 = .ok (.getfield 24, 3) := by decide +kernel
theorem dX1_mendRoad_46 : decode cX1_mendRoad 46 = .ok (.iload_n 3, 1) := by decide +kernel
theorem dX1_mendRoad_47 : decode cX1_mendRoad 47 = .ok (.invokevirtual 38, 3) := by decide +kernel
theorem dX1_mendRoad_50 : decode cX1_mendRoad 50 = .ok (.istore 4, 2) := by decide +kernel
theorem dX1_mendRoad_52 : decode cX1_mendRoad 52 = .ok (.iload 4, 2) := by decide +kernel
theorem dX1_mendRoad_54 : decode cX1_mendRoad 54 = .ok (.iconst (-1), 1) := by decide +kernel
theorem dX1_mendRoad_55 : decode cX1_mendRoad 55 = .ok (.if_icmp .ne 11, 3) := by decide +kernel
theorem dX1_mendRoad_58 : decode cX1_mendRoad 58 = .ok (.aload_n 0, 1) := by decide +kernel
theorem dX1_mendRoad_59 : decode cX1_mendRoad 59 = .ok (.iload_n 3, 1) := by decide +kernel
theorem dX1_mendRoad_60 : decode cX1_mendRoad 60 = .ok (.invokevirtual 42, 3) := by decide +kernel
theorem dX1_mendRoad_63 : decode cX1_mendRoad 63 = .ok (.goto 39, 3) := by decide +kernel
theorem dX1_mendRoad_66 : decode cX1_mendRoad 66 = .ok (.aload_n 0, 1) := by decide +kernel
theorem dX1_mendRoad_67 : decode cX1_mendRoad 67 = .ok (.iload 4, 2) := by decide +kernel
theorem dX1_mendRoad_69 : decode cX1_mendRoad 69 = .ok (.invokevirtual 46, 3) := by decide +kernel
theorem dX1_mendRoad_72 : decode cX1_mendRoad 72 = .ok (.istore 5, 2) := by decide +kernel
theorem dX1_mendRoad_74 : decode cX1_mendRoad 74 = .ok (.iload 5, 2) := by decide +kernel
theorem dX1_mendRoad_76 : decode cX1_mendRoad 76 = .ok (.ifCond .le 14, 3) := by decide +kernel
theorem dX1_mendRoad_79 : decode cX1_mendRoad 79 = .ok (.aload_n 0, 1) := by decide +kernel
theorem dX1_mendRoad_80 : decode cX1_mendRoad 80 = .ok (.iload 5, 2) := by decide +kernel
theorem dX1_mendRoad_82 : decode cX1_mendRoad 82 = .ok (.iload_n 3, 1) := by decide +kernel
theorem dX1_mendRoad_83 : decode cX1_mendRoad 83 = .ok (.iload_n 1, 1) := by decide +kernel
theorem dX1_mendRoad_84 : decode cX1_mendRoad 84 = .ok (.invokevirtual 49, 3) := by decide +kernel
theorem dX1_mendRoad_87 : decode cX1_mendRoad 87 = .ok (.goto 15, 3) := by decide +kernel
theorem dX1_mendRoad_90 : decode cX1_mendRoad 90 = .ok (.aload_n 0, 1) := by decide +kernel
theorem dX1_mendRoad_91 : decode cX1_mendRoad 91 = .ok (.iload 4, 2) := by decide +kernel
theorem dX1_mendRoad_93 : decode cX1_mendRoad 93 = .ok (.invokevirtual 53, 3) := by decide +kernel
theorem dX1_mendRoad_96 : decode cX1_mendRoad 96 = .ok (.iinc 2 1, 3) := by decide +kernel
theorem dX1_mendRoad_99 : decode cX1_mendRoad 99 = .ok (.goto (-85), 3) := by decide +kernel
theorem dX1_mendRoad_102 : decode cX1_mendRoad 102 = .ok (.aload_n 0, 1) := by decide +kernel
theorem dX1_mendRoad_103 : decode cX1_mendRoad 103 = .ok (.getfield 15, 3) := by decide +kernel
theorem dX1_mendRoad_106 : decode cX1_mendRoad 106 = .ok (.getfield 56, 3) := by decide +kernel
theorem dX1_mendRoad_109 : decode cX1_mendRoad 109 = .ok (.aload_n 0, 1) := by decide +kernel
theorem dX1_mendRoad_110 : decode cX1_mendRoad 110 = .ok (.getfield 9, 3) := by decide +kernel
theorem dX1_mendRoad_113 : decode cX1_mendRoad 113 = .ok (.iconst 0, 1) := by decide +kernel
theorem dX1_mendRoad_114 : decode cX1_mendRoad 114 = .ok (.iaload, 1) := by decide +kernel
theorem dX1_mendRoad_115 : decode cX1_mendRoad 115 = .ok (.iaload, 1) := by decide +kernel
theorem dX1_mendRoad_116 : decode cX1_mendRoad 116 = .ok (.ireturn, 1) := by decide +kernel
theorem dX1_postAt_0 : decode cX1_postAt 0 = .ok (.aload_n 0, 1) := by decide +kernel
theorem dX1_postAt_1 : decode cX1_postAt 1 = .ok (.getfield 9, 3) := by decide +kernel
theorem dX1_postAt_4 : decode cX1_postAt 4 = .ok (.iload_n 1, 1) := by decide +kernel
theorem dX1_postAt_5 : decode cX1_postAt 5 = .ok (.iaload, 1) := by decide +kernel
theorem dX1_postAt_6 : decode cX1_postAt 6 = .ok (.istore_n 2, 1) := by decide +kernel
theorem dX1_postAt_7 : decode cX1_postAt 7 = .ok (.aload_n 0, 1) := by decide +kernel
theorem dX1_postAt_8 : decode cX1_postAt 8 = .ok (.getfield 15, 3) := by decide +kernel
theorem dX1_postAt_11 : decode cX1_postAt 11 = .ok (.getfield 19, 3) := by decide +kernel
theorem dX1_postAt_14 : decode cX1_postAt 14 = .ok (.iload_n 2, 1) := by decide +kernel
theorem dX1_postAt_15 : decode cX1_postAt 15 = .ok (.iaload, 1) := by decide +kernel
theorem dX1_postAt_16 : decode cX1_postAt 16 = .ok (.aload_n 0, 1) := by decide +kernel
theorem dX1_postAt_17 : decode cX1_postAt 17 = .ok (.getfield 24, 3) := by decide +kernel
theorem dX1_postAt_20 : decode cX1_postAt 20 = .ok (.if_icmp .ne 15, 3) := by decide +kernel
theorem dX1_postAt_23 : decode cX1_postAt 23 = .ok (.aload_n 0, 1) := by decide +kernel
theorem dX1_postAt_24 : decode cX1_postAt 24 = .ok (.getfield 15, 3) := by decide +kernel
theorem dX1_postAt_27 : decode cX1_postAt 27 = .ok (.getfield 59, 3) := by decide +kernel
theorem dX1_postAt_30 : decode cX1_postAt 30 = .ok (.iload_n 2, 1) := by decide +kernel
theorem dX1_postAt_31 : decode cX1_postAt 31 = .ok (.iaload, 1) := by decide +kernel
theorem dX1_postAt_32 : decode cX1_postAt 32 = .ok (.goto 12, 3) := by decide +kernel
theorem dX1_postAt_35 : decode cX1_postAt 35 = .ok (.aload_n 0, 1) := by decide +kernel
theorem dX1_postAt_36 : decode cX1_postAt 36 = .ok (.getfield 15, 3) := by decide +kernel
theorem dX1_postAt_39 : decode cX1_postAt 39 = .ok (.getfield 19, 3) := by decide +kernel
theorem dX1_postAt_42 : decode cX1_postAt 42 = .ok (.iload_n 2, 1) := by decide +kernel
theorem dX1_postAt_43 : decode cX1_postAt 43 = .ok (.iaload, 1) := by decide +kernel
theorem dX1_postAt_44 : decode cX1_postAt 44 = .ok (.ireturn, 1) := by decide +kernel
theorem dX1_placeInFan_0 : decode cX1_placeInFan 0 = .ok (.iconst 0, 1) := by decide +kernel
theorem dX1_placeInFan_1 : decode cX1_placeInFan 1 = .ok (.istore_n 2, 1) := by decide +kernel
theorem dX1_placeInFan_2 : decode cX1_placeInFan 2 = .ok (.iload_n 2, 1) := by decide +kernel
theorem dX1_placeInFan_3 : decode cX1_placeInFan 3 = .ok (.aload_n 0, 1) := by decide +kernel
theorem dX1_placeInFan_4 : decode cX1_placeInFan 4 = .ok (.getfield 28, 3) := by decide +kernel
theorem dX1_placeInFan_7 : decode cX1_placeInFan 7 = .ok (.if_icmp .ge 21, 3) := by decide +kernel
theorem dX1_placeInFan_10 : decode cX1_placeInFan 10 = .ok (.aload_n 0, 1) := by decide +kernel
theorem dX1_placeInFan_11 : decode cX1_placeInFan 11 = .ok (.getfield 9, 3) := by decide +kernel
theorem dX1_placeInFan_14 : decode cX1_placeInFan 14 = .ok (.iload_n 2, 1) := by decide +kernel
theorem dX1_placeInFan_15 : decode cX1_placeInFan 15 = .ok (.iaload, 1) := by decide +kernel
theorem dX1_placeInFan_16 : decode cX1_placeInFan 16 = .ok (.iload_n 1, 1) := by decide +kernel
theorem dX1_placeInFan_17 : decode cX1_placeInFan 17 = .ok (.if_icmp .ne 5, 3) := by decide +kernel
theorem dX1_placeInFan_20 : decode cX1_placeInFan 20 = .ok (.iload_n 2, 1) := by decide +kernel
theorem dX1_placeInFan_21 : decode cX1_placeInFan 21 = .ok (.ireturn, 1) := by decide +kernel
theorem dX1_placeInFan_22 : decode cX1_placeInFan 22 = .ok (.iinc 2 1, 3) := by decide +kernel
theorem dX1_placeInFan_25 : decode cX1_placeInFan 25 = .ok (.goto (-23), 3) := by decide +kernel
theorem dX1_placeInFan_28 : decode cX1_placeInFan 28 = .ok (.iconst (-1), 1) := by decide +kernel
theorem dX1_placeInFan_29 : decode cX1_placeInFan 29 = .ok (.ireturn, 1) := by decide +kernel
theorem dX1_append_0 : decode cX1_append 0 = .ok (.aload_n 0, 1) := by decide +kernel
theorem dX1_append_1 : decode cX1_append 1 = .ok (.getfield 28, 3) := by decide +kernel
theorem dX1_append_4 : decode cX1_append 4 = .ok (.bipush 24, 2) := by decide +kernel
theorem dX1_append_6 : decode cX1_append 6 = .ok (.if_icmp .ge 23, 3) := by decide +kernel
theorem dX1_append_9 : decode cX1_append 9 = .ok (.aload_n 0, 1) := by decide +kernel
theorem dX1_append_10 : decode cX1_append 10 = .ok (.getfield 9, 3) := by decide +kernel
theorem dX1_append_13 : decode cX1_append 13 = .ok (.aload_n 0, 1) := by decide +kernel
theorem dX1_append_14 : decode cX1_append 14 = .ok (.getfield 28, 3) := by decide +kernel
theorem dX1_append_17 : decode cX1_append 17 = .ok (.iload_n 1, 1) := by decide +kernel
theorem dX1_append_18 : decode cX1_append 18 = .ok (.iastore, 1) := by decide +kernel
theorem dX1_append_19 : decode cX1_append 19 = .ok (.aload_n 0, 1) := by decide +kernel
theorem dX1_append_20 : decode cX1_append 20 = .ok (.dup, 1) := by decide +kernel
theorem dX1_append_21 : decode cX1_append 21 = .ok (.getfield 28, 3) := by decide +kernel
theorem dX1_append_24 : decode cX1_append 24 = .ok (.iconst 1, 1) := by decide +kernel
theorem dX1_append_25 : decode cX1_append 25 = .ok (.iadd, 1) := by decide +kernel
theorem dX1_append_26 : decode cX1_append 26 = .ok (.putfield 28, 3) := by decide +kernel
theorem dX1_append_29 : decode cX1_append 29 = .ok (.return_, 1) := by decide +kernel
theorem dX1_swapAndTurn_0 : decode cX1_swapAndTurn 0 = .ok (.aload_n 0, 1) := by decide +kernel
theorem dX1_swapAndTurn_1 : decode cX1_swapAndTurn 1 = .ok (.getfield 15, 3) := by decide +kernel
theorem dX1_swapAndTurn_4 : decode cX1_swapAndTurn 4 = .ok (.aload_n 0, 1) := by decide +kernel
theorem dX1_swapAndTurn_5 : decode cX1_swapAndTurn 5 = .ok (.getfield 9, 3) := by decide +kernel
theorem dX1_swapAndTurn_8 : decode cX1_swapAndTurn 8 = .ok (.iload_n 1, 1) := by decide +kernel
theorem dX1_swapAndTurn_9 : decode cX1_swapAndTurn 9 = .ok (.iaload, 1) := by decide +kernel
theorem dX1_swapAndTurn_10 : decode cX1_swapAndTurn 10 = .ok (.iload_n 2, 1) := by decide +kernel
theorem dX1_swapAndTurn_11 : decode cX1_swapAndTurn 11 = .ok (.iload_n 3, 1) := by decide +kernel
theorem dX1_swapAndTurn_12 : decode cX1_swapAndTurn 12 = .ok (.invokevirtual 62, 3) := by decide +kernel
theorem dX1_swapAndTurn_15 : decode cX1_swapAndTurn 15 = .ok (.istore 4, 2) := by decide +kernel
theorem dX1_swapAndTurn_17 : decode cX1_swapAndTurn 17 = .ok (.iload 4, 2) := by decide +kernel
theorem dX1_swapAndTurn_19 : decode cX1_swapAndTurn 19 = .ok (.aload_n 0, 1) := by decide +kernel
theorem dX1_swapAndTurn_20 : decode cX1_swapAndTurn 20 = .ok (.getfield 15, 3) := by decide +kernel
theorem dX1_swapAndTurn_23 : decode cX1_swapAndTurn 23 = .ok (.getfield 66, 3) := by decide +kernel
theorem dX1_swapAndTurn_26 : decode cX1_swapAndTurn 26 = .ok (.aload_n 0, 1) := by decide +kernel
theorem dX1_swapAndTurn_27 : decode cX1_swapAndTurn 27 = .ok (.iload_n 1, 1) := by decide +kernel
theorem dX1_swapAndTurn_28 : decode cX1_swapAndTurn 28 = .ok (.iconst 1, 1) := by decide +kernel
theorem dX1_swapAndTurn_29 : decode cX1_swapAndTurn 29 = .ok (.isub, 1) := by decide +kernel
theorem dX1_swapAndTurn_30 : decode cX1_swapAndTurn 30 = .ok (.invokevirtual 35, 3) := by decide +kernel
theorem dX1_swapAndTurn_33 : decode cX1_swapAndTurn 33 = .ok (.iaload, 1) := by decide +kernel
theorem dX1_swapAndTurn_34 : decode cX1_swapAndTurn 34 = .ok (.iand, 1) := by decide +kernel
theorem dX1_swapAndTurn_35 : decode cX1_swapAndTurn 35 = .ok (.ifCond .eq 7, 3) := by decide +kernel
theorem dX1_swapAndTurn_38 : decode cX1_swapAndTurn 38 = .ok (.iconst 1, 1) := by decide +kernel
theorem dX1_swapAndTurn_39 : decode cX1_swapAndTurn 39 = .ok (.goto 4, 3) := by decide +kernel
theorem dX1_swapAndTurn_42 : decode cX1_swapAndTurn 42 = .ok (.iconst 0, 1) := by decide +kernel
theorem dX1_swapAndTurn_43 : decode cX1_swapAndTurn 43 = .ok (.istore 5, 2) := by decide +kernel
theorem dX1_swapAndTurn_45 : decode cX1_swapAndTurn 45 = .ok (.aload_n 0, 1) := by decide +kernel
theorem dX1_swapAndTurn_46 : decode cX1_swapAndTurn 46 = .ok (.getfield 15, 3) := by decide +kernel
theorem dX1_swapAndTurn_49 : decode cX1_swapAndTurn 49 = .ok (.iload 4, 2) := by decide +kernel
theorem dX1_swapAndTurn_51 : decode cX1_swapAndTurn 51 = .ok (.iload_n 2, 1) := by decide +kernel
theorem dX1_swapAndTurn_52 : decode cX1_swapAndTurn 52 = .ok (.iload_n 3, 1) := by decide +kernel
theorem dX1_swapAndTurn_53 : decode cX1_swapAndTurn 53 = .ok (.invokevirtual 69, 3) := by decide +kernel
theorem dX1_swapAndTurn_56 : decode cX1_swapAndTurn 56 = .ok (.iload 5, 2) := by decide +kernel
theorem dX1_swapAndTurn_58 : decode cX1_swapAndTurn 58 = .ok (.ifCond .ne 8, 3) := by decide +kernel
theorem dX1_swapAndTurn_61 : decode cX1_swapAndTurn 61 = .ok (.aload_n 0, 1) := by decide +kernel
theorem dX1_swapAndTurn_62 : decode cX1_swapAndTurn 62 = .ok (.iload_n 1, 1) := by decide +kernel
theorem dX1_swapAndTurn_63 : decode cX1_swapAndTurn 63 = .ok (.putfield 28, 3) := by decide +kernel
theorem dX1_swapAndTurn_66 : decode cX1_swapAndTurn 66 = .ok (.aload_n 0, 1) := by decide +kernel
theorem dX1_swapAndTurn_67 : decode cX1_swapAndTurn 67 = .ok (.iload_n 2, 1) := by decide +kernel
theorem dX1_swapAndTurn_68 : decode cX1_swapAndTurn 68 = .ok (.invokevirtual 42, 3) := by decide +kernel
theorem dX1_swapAndTurn_71 : decode cX1_swapAndTurn 71 = .ok (.return_, 1) := by decide +kernel
theorem dX1_turn_0 : decode cX1_turn 0 = .ok (.iconst 0, 1) := by decide +kernel
theorem dX1_turn_1 : decode cX1_turn 1 = .ok (.istore_n 2, 1) := by decide +kernel
theorem dX1_turn_2 : decode cX1_turn 2 = .ok (.iload_n 2, 1) := by decide +kernel
theorem dX1_turn_3 : decode cX1_turn 3 = .ok (.aload_n 0, 1) := by decide +kernel
theorem dX1_turn_4 : decode cX1_turn 4 = .ok (.getfield 28, 3) := by decide +kernel
theorem dX1_turn_7 : decode cX1_turn 7 = .ok (.iconst 1, 1) := by decide +kernel
theorem dX1_turn_8 : decode cX1_turn 8 = .ok (.isub, 1) := by decide +kernel
theorem dX1_turn_9 : decode cX1_turn 9 = .ok (.if_icmp .ge 39, 3) := by decide +kernel
theorem dX1_turn_12 : decode cX1_turn 12 = .ok (.aload_n 0, 1) := by decide +kernel
theorem dX1_turn_13 : decode cX1_turn 13 = .ok (.getfield 15, 3) := by decide +kernel
theorem dX1_turn_16 : decode cX1_turn 16 = .ok (.getfield 56, 3) := by decide +kernel
theorem dX1_turn_19 : decode cX1_turn 19 = .ok (.aload_n 0, 1) := by decide +kernel
theorem dX1_turn_20 : decode cX1_turn 20 = .ok (.getfield 9, 3) := by decide +kernel
theorem dX1_turn_23 : decode cX1_turn 23 = .ok (.iload_n 2, 1) := by decide +kernel
theorem dX1_turn_24 : decode cX1_turn 24 = .ok (.iaload, 1) := by decide +kernel
theorem dX1_turn_25 : decode cX1_turn 25 = .ok (.aload_n 0, 1) := by decide +kernel
theorem dX1_turn_26 : decode cX1_turn 26 = .ok (.getfield 15, 3) := by decide +kernel
theorem dX1_turn_29 : decode cX1_turn 29 = .ok (.getfield 56, 3) := by decide +kernel
theorem dX1_turn_32 : decode cX1_turn 32 = .ok (.aload_n 0, 1) := by decide +kernel
theorem dX1_turn_33 : decode cX1_turn 33 = .ok (.getfield 9, 3) := by decide +kernel
theorem dX1_turn_36 : decode cX1_turn 36 = .ok (.iload_n 2, 1) := by decide +kernel
theorem dX1_turn_37 : decode cX1_turn 37 = .ok (.iconst 1, 1) := by decide +kernel
theorem dX1_turn_38 : decode cX1_turn 38 = .ok (.iadd, 1) := by decide +kernel
theorem dX1_turn_39 : decode cX1_turn 39 = .ok (.iaload, 1) := by decide +kernel
theorem dX1_turn_40 : decode cX1_turn 40 = .ok (.iaload, 1) := by decide +kernel
theorem dX1_turn_41 : decode cX1_turn 41 = .ok (.iastore, 1) := by decide +kernel
theorem dX1_turn_42 : decode cX1_turn 42 = .ok (.iinc 2 1, 3) := by decide +kernel
theorem dX1_turn_45 : decode cX1_turn 45 = .ok (.goto (-43), 3) := by decide +kernel
theorem dX1_turn_48 : decode cX1_turn 48 = .ok (.aload_n 0, 1) := by decide +kernel
theorem dX1_turn_49 : decode cX1_turn 49 = .ok (.getfield 15, 3) := by decide +kernel
theorem dX1_turn_52 : decode cX1_turn 52 = .ok (.getfield 56, 3) := by decide +kernel
theorem dX1_turn_55 : decode cX1_turn 55 = .ok (.aload_n 0, 1) := by decide +kernel
theorem dX1_turn_56 : decode cX1_turn 56 = .ok (.getfield 9, 3) := by decide +kernel
theorem dX1_turn_59 : decode cX1_turn 59 = .ok (.aload_n 0, 1) := by decide +kernel
theorem dX1_turn_60 : decode cX1_turn 60 = .ok (.getfield 28, 3) := by decide +kernel
theorem dX1_turn_63 : decode cX1_turn 63 = .ok (.iconst 1, 1) := by decide +kernel
theorem dX1_turn_64 : decode cX1_turn 64 = .ok (.isub, 1) := by decide +kernel
theorem dX1_turn_65 : decode cX1_turn 65 = .ok (.iaload, 1) := by decide +kernel
theorem dX1_turn_66 : decode cX1_turn 66 = .ok (.iload_n 1, 1) := by decide +kernel
theorem dX1_turn_67 : decode cX1_turn 67 = .ok (.iastore, 1) := by decide +kernel
theorem dX1_turn_68 : decode cX1_turn 68 = .ok (.return_, 1) := by decide +kernel
theorem dX2_init_0 : decode cX2_init 0 = .ok (.aload_n 0, 1) := by decide +kernel
theorem dX2_init_1 : decode cX2_init 1 = .ok (.invokespecial 3, 3) := by decide +kernel
theorem dX2_init_4 : decode cX2_init 4 = .ok (.aload_n 0, 1) := by decide +kernel
theorem dX2_init_5 : decode cX2_init 5 = .ok (.sipush 4096, 3) := by decide +kernel
theorem dX2_init_8 : decode cX2_init 8 = .ok (.newarray .int, 2) := by decide +kernel
theorem dX2_init_10 : decode cX2_init 10 = .ok (.putfield 9, 3) := by decide +kernel
theorem dX2_init_13 : decode cX2_init 13 = .ok (.aload_n 0, 1) := by decide +kernel
theorem dX2_init_14 : decode cX2_init 14 = .ok (.aload_n 1, 1) := by decide +kernel
theorem dX2_init_15 : decode cX2_init 15 = .ok (.putfield 15, 3) := by decide +kernel
theorem dX2_init_18 : decode cX2_init 18 = .ok (.return_, 1) := by decide +kernel
theorem dX2_greatestNeed_0 : decode cX2_greatestNeed 0 = .ok (.aload_n 0, 1) := by decide +kernel
theorem dX2_greatestNeed_1 : decode cX2_greatestNeed 1 = .ok (.invokevirtual 19, 3) := by decide +kernel
theorem dX2_greatestNeed_4 : decode cX2_greatestNeed 4 = .ok (.istore_n 1, 1) := by decide +kernel
theorem dX2_greatestNeed_5 : decode cX2_greatestNeed 5 = .ok (.iload_n 1, 1) := by decide +kernel
theorem dX2_greatestNeed_6 : decode cX2_greatestNeed 6 = .ok (.iconst (-1), 1) := by decide +kernel
theorem dX2_greatestNeed_7 : decode cX2_greatestNeed 7 = .ok (.if_icmp .ne 5, 3) := by decide +kernel
theorem dX2_greatestNeed_10 : decode cX2_greatestNeed 10 = .ok (.iconst 0, 1) := by decide +kernel
theorem dX2_greatestNeed_11 : decode cX2_greatestNeed 11 = .ok (.ireturn, 1) := by decide +kernel
theorem dX2_greatestNeed_12 : decode cX2_greatestNeed 12 = .ok (.aload_n 0, 1) := by decide +kernel
theorem dX2_greatestNeed_13 : decode cX2_greatestNeed 13 = .ok (.getfield 9, 3) := by decide +kernel
theorem dX2_greatestNeed_16 : decode cX2_greatestNeed 16 = .ok (.iload_n 1, 1) := by decide +kernel
theorem dX2_greatestNeed_17 : decode cX2_greatestNeed 17 = .ok (.iaload, 1) := by decide +kernel
theorem dX2_greatestNeed_18 : decode cX2_greatestNeed 18 = .ok (.iload_n 1, 1) := by decide +kernel
theorem dX2_greatestNeed_19 : decode cX2_greatestNeed 19 = .ok (.invokestatic 23, 3) := by decide +kernel
theorem dX2_greatestNeed_22 : decode cX2_greatestNeed 22 = .ok (.invokestatic 29, 3) := by decide +kernel
theorem dX2_greatestNeed_25 : decode cX2_greatestNeed 25 = .ok (.ireturn, 1) := by decide +kernel
theorem dX2_neediest_0 : decode cX2_neediest 0 = .ok (.aload_n 0, 1) := by decide +kernel
theorem dX2_neediest_1 : decode cX2_neediest 1 = .ok (.getfield 15, 3) := by decide +kernel
theorem dX2_neediest_4 : decode cX2_neediest 4 = .ok (.getfield 33, 3) := by decide +kernel
theorem dX2_neediest_7 : decode cX2_neediest 7 = .ok (.iconst 3, 1) := by decide +kernel
theorem dX2_neediest_8 : decode cX2_neediest 8 = .ok (.if_icmp .ge 5, 3) := by decide +kernel
theorem dX2_neediest_11 : decode cX2_neediest 11 = .ok (.iconst (-1), 1) := by decide +kernel
theorem dX2_neediest_12 : decode cX2_neediest 12 = .ok (.ireturn, 1) := by decide +kernel
theorem dX2_neediest_13 : decode cX2_neediest 13 = .ok (.aload_n 0, 1) := by decide +kernel
theorem dX2_neediest_14 : decode cX2_neediest 14 = .ok (.invokevirtual 39, 3) := by decide +kernel
theorem dX2_neediest_17 : decode cX2_neediest 17 = .ok (.iconst (-1), 1) := by decide +kernel
theorem dX2_neediest_18 : decode cX2_neediest 18 = .ok (.istore_n 1, 1) := by decide +kernel
theorem dX2_neediest_19 : decode cX2_neediest 19 = .ok (.iconst (-1), 1) := by decide +kernel
theorem dX2_neediest_20 : decode cX2_neediest 20 = .ok (.istore_n 2, 1) := by decide +kernel
theorem dX2_neediest_21 : decode cX2_neediest 21 = .ok (.iconst 0, 1) := by decide +kernel
theorem dX2_neediest_22 : decode cX2_neediest 22 = .ok (.istore_n 3, 1) := by decide +kernel
theorem dX2_neediest_23 : decode cX2_neediest 23 = .ok (.iload_n 3, 1) := by decide +kernel
theorem dX2_neediest_24 : decode cX2_neediest 24 = .ok (.aload_n 0, 1) := by decide +kernel
theorem dX2_neediest_25 : decode cX2_neediest 25 = .ok (.getfield 15, 3) := by decide +kernel
theorem dX2_neediest_28 : decode cX2_neediest 28 = .ok (.invokevirtual 42, 3) := by decide +kernel
theorem dX2_neediest_31 : decode cX2_neediest 31 = .ok (.if_icmp .gt 50, 3) := by decide +kernel
theorem dX2_neediest_34 : decode cX2_neediest 34 = .ok (.iload_n 3, 1) := by decide +kernel
theorem dX2_neediest_35 : decode cX2_neediest 35 = .ok (.invokestatic 23, 3) := by decide +kernel
theorem dX2_neediest_38 : decode cX2_neediest 38 = .ok (.istore 4, 2) := by decide +kernel
theorem dX2_neediest_40 : decode cX2_neediest 40 = .ok (.iload 4, 2) := by decide +kernel
theorem dX2_neediest_42 : decode cX2_neediest 42 = .ok (.iconst 3, 1) := by decide +kernel
theorem dX2_neediest_43 : decode cX2_neediest 43 = .ok (.if_icmp .lt 32, 3) := by decide +kernel
theorem dX2_neediest_46 : decode cX2_neediest 46 = .ok (.aload_n 0, 1) := by decide +kernel
theorem dX2_neediest_47 : decode cX2_neediest 47 = .ok (.getfield 9, 3) := by decide +kernel
theorem dX2_neediest_50 : decode cX2_neediest 50 = .ok (.iload_n 3, 1) := by decide +kernel
theorem dX2_neediest_51 : decode cX2_neediest 51 = .ok (.iaload, 1) := by decide +kernel
theorem dX2_neediest_52 : decode cX2_neediest 52 = .ok (.iload 4, 2) := by decide +kernel
theorem dX2_neediest_54 : decode cX2_neediest 54 = .ok (.invokestatic 29, 3) := by decide +kernel
theorem dX2_neediest_57 : decode cX2_neediest 57 = .ok (.iload_n 2, 1) := by decide +kernel
theorem dX2_neediest_58 : decode cX2_neediest 58 = .ok (.if_icmp .le 17, 3) := by decide +kernel
theorem dX2_neediest_61 : decode cX2_neediest 61 = .ok (.iload_n 3, 1) := by decide +kernel
theorem dX2_neediest_62 : decode cX2_neediest 62 = .ok (.istore_n 1, 1) := by decide +kernel
theorem dX2_neediest_63 : decode cX2_neediest 63 = .ok (.aload_n 0, 1) := by decide +kernel
theorem dX2_neediest_64 : decode cX2_neediest 64 = .ok (.getfield 9, 3) := by decide +kernel
theorem dX2_neediest_67 : decode cX2_neediest 67 = .ok (.iload_n 3, 1) := by decide +kernel
theorem dX2_neediest_68 : decode cX2_neediest 68 = .ok (.iaload, 1) := by decide +kernel
theorem dX2_neediest_69 : decode cX2_neediest 69 = .ok (.iload 4, 2) := by decide +kernel
theorem dX2_neediest_71 : decode cX2_neediest 71 = .ok (.invokestatic 29, 3) := by decide +kernel
theorem dX2_neediest_74 : decode cX2_neediest 74 = .ok (.istore_n 2, 1) := by decide +kernel
theorem dX2_neediest_75 : decode cX2_neediest 75 = .ok (.iinc 3 1, 3) := by decide +kernel
theorem dX2_neediest_78 : decode cX2_neediest 78 = .ok (.goto (-55), 3) := by decide +kernel
theorem dX2_neediest_81 : decode cX2_neediest 81 = .ok (.iload_n 1, 1) := by decide +kernel
theorem dX2_neediest_82 : decode cX2_neediest 82 = .ok (.ireturn, 1) := by decide +kernel
theorem dX2_countInside_0 : decode cX2_countInside 0 = .ok (.aload_n 0, 1) := by decide +kernel
theorem dX2_countInside_1 : decode cX2_countInside 1 = .ok (.getfield 15, 3) := by decide +kernel
theorem dX2_countInside_4 : decode cX2_countInside 4 = .ok (.invokevirtual 42, 3) := by decide +kernel
theorem dX2_countInside_7 : decode cX2_countInside 7 = .ok (.istore_n 1, 1) := by decide +kernel
theorem dX2_countInside_8 : decode cX2_countInside 8 = .ok (.aload_n 0, 1) := by decide +kernel
theorem dX2_countInside_9 : decode cX2_countInside 9 = .ok (.getfield 9, 3) := by decide +kernel
theorem dX2_countInside_12 : decode cX2_countInside 12 = .ok (.iconst 0, 1) := by decide +kernel
theorem dX2_countInside_13 : decode cX2_countInside 13 = .ok (.iconst 0, 1) := by decide +kernel
theorem dX2_countInside_14 : decode cX2_countInside 14 = .ok (.iastore, 1) := by decide +kernel
theorem dX2_countInside_15 : decode cX2_countInside 15 = .ok (.iconst 1, 1) := by decide +kernel
theorem dX2_countInside_16 : decode cX2_countInside 16 = .ok (.istore_n 2, 1) := by decide +kernel
theorem dX2_countInside_17 : decode cX2_countInside 17 = .ok (.iload_n 2, 1) := by decide +kernel
theorem dX2_countInside_18 : decode cX2_countInside 18 = .ok (.iload_n 1, 1) := by decide +kernel
theorem dX2_countInside_19 : decode cX2_countInside 19 = .ok (.if_icmp .gt 84, 3) := by decide +kernel
theorem dX2_countInside_22 : decode cX2_countInside 22 = .ok (.iload_n 2, 1) := by decide +kernel
theorem dX2_countInside_23 : decode cX2_countInside 23 = .ok (.iload_n 2, 1) := by decide +kernel
theorem dX2_countInside_24 : decode cX2_countInside 24 = .ok (.ineg, 1) := by decide +kernel
theorem dX2_countInside_25 : decode cX2_countInside 25 = .ok (.iand, 1) := by decide +kernel
theorem dX2_countInside_26 : decode cX2_countInside 26 = .ok (.istore_n 3, 1) := by decide +kernel
theorem dX2_countInside_27 : decode cX2_countInside 27 = .ok (.iload_n 2, 1) := by decide +kernel
theorem dX2_countInside_28 : decode cX2_countInside 28 = .ok (.iload_n 3, 1) := by decide +kernel
theorem dX2_countInside_29 : decode cX2_countInside 29 = .ok (.ixor, 1) := by decide +kernel
theorem dX2_countInside_30 : decode cX2_countInside 30 = .ok (.istore 4, 2) := by decide +kernel
theorem dX2_countInside_32 : decode cX2_countInside 32 = .ok (.iload 4, 2) := by decide +kernel
theorem dX2_countInside_34 : decode cX2_countInside 34 = .ok (.iload 4, 2) := by decide +kernel
theorem dX2_countInside_36 : decode cX2_countInside 36 = .ok (.ineg, 1) := by decide +kernel
theorem dX2_countInside_37 : decode cX2_countInside 37 = .ok (.iand, 1) := by decide +kernel
theorem dX2_countInside_38 : decode cX2_countInside 38 = .ok (.istore 5, 2) := by decide +kernel
theorem dX2_countInside_40 : decode cX2_countInside 40 = .ok (.iload 5, 2) := by decide +kernel
theorem dX2_countInside_42 : decode cX2_countInside 42 = .ok (.ifCond .ne 13, 3) := by decide +kernel
theorem dX2_countInside_45 : decode cX2_countInside 45 = .ok (.aload_n 0, 1) := by decide +kernel
theorem dX2_countInside_46 : decode cX2_countInside 46 = .ok (.getfield 9, 3) := by decide +kernel
theorem dX2_countInside_49 : decode cX2_countInside 49 = .ok (.iload_n 2, 1) := by decide +kernel
theorem dX2_countInside_50 : decode cX2_countInside 50 = .ok (.iconst 0, 1) := by decide +kernel
theorem dX2_countInside_51 : decode cX2_countInside 51 = .ok (.iastore, 1) := by decide +kernel
theorem dX2_countInside_52 : decode cX2_countInside 52 = .ok (.goto 45, 3) := by decide +kernel
theorem dX2_countInside_55 : decode cX2_countInside 55 = .ok (.aload_n 0, 1) := by decide +kernel
theorem dX2_countInside_56 : decode cX2_countInside 56 = .ok (.getfield 9, 3) := by decide +kernel
theorem dX2_countInside_59 : decode cX2_countInside 59 = .ok (.iload_n 2, 1) := by decide +kernel
theorem dX2_countInside_60 : decode cX2_countInside 60 = .ok (.aload_n 0, 1) := by decide +kernel
theorem dX2_countInside_61 : decode cX2_countInside 61 = .ok (.getfield 9, 3) := by decide +kernel
theorem dX2_countInside_64 : decode cX2_countInside 64 = .ok (.iload 4, 2) := by decide +kernel
theorem dX2_countInside_66 : decode cX2_countInside 66 = .ok (.iaload, 1) := by decide +kernel
theorem dX2_countInside_67 : decode cX2_countInside 67 = .ok (.aload_n 0, 1) := by decide +kernel
theorem dX2_countInside_68 : decode cX2_countInside 68 = .ok (.getfield 9, 3) := by decide +kernel
theorem dX2_countInside_71 : decode cX2_countInside 71 = .ok (.iload_n 2, 1) := by decide +kernel
theorem dX2_countInside_72 : decode cX2_countInside 72 = .ok (.iload 5, 2) := by decide +kernel
theorem dX2_countInside_74 : decode cX2_countInside 74 = .ok (.ixor, 1) := by decide +kernel
theorem dX2_countInside_75 : decode cX2_countInside 75 = .ok (.iaload, 1) := by decide +kernel
theorem dX2_countInside_76 : decode cX2_countInside 76 = .ok (.iadd, 1) := by decide +kernel
theorem dX2_countInside_77 : decode cX2_countInside 77 = .ok (.aload_n 0, 1) := by decide +kernel
theorem dX2_countInside_78 : decode cX2_countInside 78 = .ok (.getfield 9, 3) := by decide +kernel
theorem dX2_countInside_81 : decode cX2_countInside 81 = .ok (.iload 4, 2) := by decide +kernel
theorem dX2_countInside_83 : decode cX2_countInside 83 = .ok (.iload 5, 2) := by decide +kernel
theorem dX2_countInside_85 : decode cX2_countInside 85 = .ok (.ixor, 1) := by decide +kernel
theorem dX2_countInside_86 : decode cX2_countInside 86 = .ok (.iaload, 1) := by decide +kernel
theorem dX2_countInside_87 : decode cX2_countInside 87 = .ok (.isub, 1) := by decide +kernel
theorem dX2_countInside_88 : decode cX2_countInside 88 = .ok (.aload_n 0, 1) := by decide +kernel
theorem dX2_countInside_89 : decode cX2_countInside 89 = .ok (.iload_n 3, 1) := by decide +kernel
theorem dX2_countInside_90 : decode cX2_countInside 90 = .ok (.iload 5, 2) := by decide +kernel
theorem dX2_countInside_92 : decode cX2_countInside 92 = .ok (.invokevirtual 45, 3) := by decide +kernel
theorem dX2_countInside_95 : decode cX2_countInside 95 = .ok (.iadd, 1) := by decide +kernel
theorem dX2_countInside_96 : decode cX2_countInside 96 = .ok (.iastore, 1) := by decide +kernel
theorem dX2_countInside_97 : decode cX2_countInside 97 = .ok (.iinc 2 1, 3) := by decide +kernel
theorem dX2_countInside_100 : decode cX2_countInside 100 = .ok (.goto (-83), 3) := by decide +kernel
theorem dX2_countInside_103 : decode cX2_countInside 103 = .ok (.return_, 1) := by decide +kernel
theorem dX2_between_0 : decode cX2_between 0 = .ok (.aload_n 0, 1) := by decide +kernel
theorem dX2_between_1 : decode cX2_between 1 = .ok (.getfield 15, 3) := by decide +kernel
theorem dX2_between_4 : decode cX2_between 4 = .ok (.getfield 48, 3) := by decide +kernel
theorem dX2_between_7 : decode cX2_between 7 = .ok (.iload_n 1, 1) := by decide +kernel
theorem dX2_between_8 : decode cX2_between 8 = .ok (.invokestatic 51, 3) := by decide +kernel
theorem dX2_between_11 : decode cX2_between 11 = .ok (.iaload, 1) := by decide +kernel
theorem dX2_between_12 : decode cX2_between 12 = .ok (.aload_n 0, 1) := by decide +kernel
theorem dX2_between_13 : decode cX2_between 13 = .ok (.getfield 15, 3) := by decide +kernel
theorem dX2_between_16 : decode cX2_between 16 = .ok (.getfield 48, 3) := by decide +kernel
theorem dX2_between_19 : decode cX2_between 19 = .ok (.iload_n 2, 1) := by decide +kernel
theorem dX2_between_20 : decode cX2_between 20 = .ok (.invokestatic 51, 3) := by decide +kernel
theorem dX2_between_23 : decode cX2_between 23 = .ok (.iaload, 1) := by decide +kernel
theorem dX2_between_24 : decode cX2_between 24 = .ok (.iand, 1) := by decide +kernel
theorem dX2_between_25 : decode cX2_between 25 = .ok (.invokestatic 23, 3) := by decide +kernel
theorem dX2_between_28 : decode cX2_between 28 = .ok (.ireturn, 1) := by decide +kernel
theorem dX3_init_0 : decode cX3_init 0 = .ok (.aload_n 0, 1) := by decide +kernel
theorem dX3_init_1 : decode cX3_init 1 = .ok (.invokespecial 3, 3) := by decide +kernel
theorem dX3_init_4 : decode cX3_init 4 = .ok (.aload_n 0, 1) := by decide +kernel
theorem dX3_init_5 : decode cX3_init 5 = .ok (.bipush 24, 2) := by decide +kernel
theorem dX3_init_7 : decode cX3_init 7 = .ok (.newarray .int, 2) := by decide +kernel
theorem dX3_init_9 : decode cX3_init 9 = .ok (.putfield 9, 3) := by decide +kernel
theorem dX3_init_12 : decode cX3_init 12 = .ok (.aload_n 0, 1) := by decide +kernel
theorem dX3_init_13 : decode cX3_init 13 = .ok (.bipush 24, 2) := by decide +kernel
theorem dX3_init_15 : decode cX3_init 15 = .ok (.newarray .int, 2) := by decide +kernel
theorem dX3_init_17 : decode cX3_init 17 = .ok (.putfield 15, 3) := by decide +kernel
theorem dX3_init_20 : decode cX3_init 20 = .ok (.aload_n 0, 1) := by decide +kernel
theorem dX3_init_21 : decode cX3_init 21 = .ok (.bipush 24, 2) := by decide +kernel
theorem dX3_init_23 : decode cX3_init 23 = .ok (.newarray .int, 2) := by decide +kernel
theorem dX3_init_25 : decode cX3_init 25 = .ok (.putfield 18, 3) := by decide +kernel
theorem dX3_init_28 : decode cX3_init 28 = .ok (.aload_n 0, 1) := by decide +kernel
theorem dX3_init_29 : decode cX3_init 29 = .ok (.bipush 24, 2) := by decide +kernel
theorem dX3_init_31 : decode cX3_init 31 = .ok (.newarray .int, 2) := by decide +kernel
theorem dX3_init_33 : decode cX3_init 33 = .ok (.putfield 21, 3) := by decide +kernel
theorem dX3_init_36 : decode cX3_init 36 = .ok (.aload_n 0, 1) := by decide +kernel
theorem dX3_init_37 : decode cX3_init 37 = .ok (.bipush 12, 2) := by decide +kernel
theorem dX3_init_39 : decode cX3_init 39 = .ok (.newarray .int, 2) := by decide +kernel
theorem dX3_init_41 : decode cX3_init 41 = .ok (.putfield 24, 3) := by decide +kernel
theorem dX3_init_44 : decode cX3_init 44 = .ok (.aload_n 0, 1) := by decide +kernel
theorem dX3_init_45 : decode cX3_init 45 = .ok (.bipush 24, 2) := by decide +kernel
theorem dX3_init_47 : decode cX3_init 47 = .ok (.newarray .int, 2) := by decide +kernel
theorem dX3_init_49 : decode cX3_init 49 = .ok (.putfield 27, 3) := by decide +kernel
theorem dX3_init_52 : decode cX3_init 52 = .ok (.aload_n 0, 1) := by decide +kernel
theorem dX3_init_53 : decode cX3_init 53 = .ok (.iconst 0, 1) := by decide +kernel
theorem dX3_init_54 : decode cX3_init 54 = .ok (.putfield 30, 3) := by decide +kernel
theorem dX3_init_57 : decode cX3_init 57 = .ok (.aload_n 0, 1) := by decide +kernel
theorem dX3_init_58 : decode cX3_init 58 = .ok (.iconst 0, 1) := by decide +kernel
theorem dX3_init_59 : decode cX3_init 59 = .ok (.putfield 34, 3) := by decide +kernel
theorem dX3_init_62 : decode cX3_init 62 = .ok (.return_, 1) := by decide +kernel
theorem dX3_hasPost_0 : decode cX3_hasPost 0 = .ok (.iload_n 1, 1) := by decide +kernel
theorem dX3_hasPost_1 : decode cX3_hasPost 1 = .ok (.ifCond .lt 15, 3) := by decide +kernel
theorem dX3_hasPost_4 : decode cX3_hasPost 4 = .ok (.iload_n 1, 1) := by decide +kernel
theorem dX3_hasPost_5 : decode cX3_hasPost 5 = .ok (.aload_n 0, 1) := by decide +kernel
theorem dX3_hasPost_6 : decode cX3_hasPost 6 = .ok (.getfield 30, 3) := by decide +kernel
theorem dX3_hasPost_9 : decode cX3_hasPost 9 = .ok (.if_icmp .ge 7, 3) := by decide +kernel
theorem dX3_hasPost_12 : decode cX3_hasPost 12 = .ok (.iconst 1, 1) := by decide +kernel
theorem dX3_hasPost_13 : decode cX3_hasPost 13 = .ok (.goto 4, 3) := by decide +kernel
theorem dX3_hasPost_16 : decode cX3_hasPost 16 = .ok (.iconst 0, 1) := by decide +kernel
theorem dX3_hasPost_17 : decode cX3_hasPost 17 = .ok (.ireturn, 1) := by decide +kernel
theorem dX3_hasRoad_0 : decode cX3_hasRoad 0 = .ok (.iload_n 1, 1) := by decide +kernel
theorem dX3_hasRoad_1 : decode cX3_hasRoad 1 = .ok (.ifCond .lt 15, 3) := by decide +kernel
theorem dX3_hasRoad_4 : decode cX3_hasRoad 4 = .ok (.iload_n 1, 1) := by decide +kernel
theorem dX3_hasRoad_5 : decode cX3_hasRoad 5 = .ok (.aload_n 0, 1) := by decide +kernel
theorem dX3_hasRoad_6 : decode cX3_hasRoad 6 = .ok (.getfield 34, 3) := by decide +kernel
theorem dX3_hasRoad_9 : decode cX3_hasRoad 9 = .ok (.if_icmp .ge 7, 3) := by decide +kernel
theorem dX3_hasRoad_12 : decode cX3_hasRoad 12 = .ok (.iconst 1, 1) := by decide +kernel
theorem dX3_hasRoad_13 : decode cX3_hasRoad 13 = .ok (.goto 4, 3) := by decide +kernel
theorem dX3_hasRoad_16 : decode cX3_hasRoad 16 = .ok (.iconst 0, 1) := by decide +kernel
theorem dX3_hasRoad_17 : decode cX3_hasRoad 17 = .ok (.ireturn, 1) := by decide +kernel
theorem dX3_allPosts_0 : decode cX3_allPosts 0 = .ok (.iconst 1, 1) := by decide +kernel
theorem dX3_allPosts_1 : decode cX3_allPosts 1 = .ok (.aload_n 0, 1) := by decide +kernel
theorem dX3_allPosts_2 : decode cX3_allPosts 2 = .ok (.getfield 30, 3) := by decide +kernel
theorem dX3_allPosts_5 : decode cX3_allPosts 5 = .ok (.ishl, 1) := by decide +kernel
theorem dX3_allPosts_6 : decode cX3_allPosts 6 = .ok (.iconst 1, 1) := by decide +kernel
theorem dX3_allPosts_7 : decode cX3_allPosts 7 = .ok (.isub, 1) := by decide +kernel
theorem dX3_allPosts_8 : decode cX3_allPosts 8 = .ok (.ireturn, 1) := by decide +kernel
theorem dX3_allRoads_0 : decode cX3_allRoads 0 = .ok (.iconst 1, 1) := by decide +kernel
theorem dX3_allRoads_1 : decode cX3_allRoads 1 = .ok (.aload_n 0, 1) := by decide +kernel
theorem dX3_allRoads_2 : decode cX3_allRoads 2 = .ok (.getfield 34, 3) := by decide +kernel
theorem dX3_allRoads_5 : decode cX3_allRoads 5 = .ok (.ishl, 1) := by decide +kernel
theorem dX3_allRoads_6 : decode cX3_allRoads 6 = .ok (.iconst 1, 1) := by decide +kernel
theorem dX3_allRoads_7 : decode cX3_allRoads 7 = .ok (.isub, 1) := by decide +kernel
theorem dX3_allRoads_8 : decode cX3_allRoads 8 = .ok (.ireturn, 1) := by decide +kernel
theorem dX3_addPost_0 : decode cX3_addPost 0 = .ok (.aload_n 0, 1) := by decide +kernel
theorem dX3_addPost_1 : decode cX3_addPost 1 = .ok (.getfield 24, 3) := by decide +kernel
theorem dX3_addPost_4 : decode cX3_addPost 4 = .ok (.aload_n 0, 1) := by decide +kernel
theorem dX3_addPost_5 : decode cX3_addPost 5 = .ok (.getfield 30, 3) := by decide +kernel
theorem dX3_addPost_8 : decode cX3_addPost 8 = .ok (.iconst 0, 1) := by decide +kernel
theorem dX3_addPost_9 : decode cX3_addPost 9 = .ok (.iastore, 1) := by decide +kernel
theorem dX3_addPost_10 : decode cX3_addPost 10 = .ok (.aload_n 0, 1) := by decide +kernel
theorem dX3_addPost_11 : decode cX3_addPost 11 = .ok (.dup, 1) := by decide +kernel
theorem dX3_addPost_12 : decode cX3_addPost 12 = .ok (.getfield 30, 3) := by decide +kernel
theorem dX3_addPost_15 : decode cX3_addPost 15 = .ok (.iconst 1, 1) := by decide +kernel
theorem dX3_addPost_16 : decode cX3_addPost 16 = .ok (.iadd, 1) := by decide +kernel
theorem dX3_addPost_17 : decode cX3_addPost 17 = .ok (.putfield 30, 3) := by decide +kernel
theorem dX3_addPost_20 : decode cX3_addPost 20 = .ok (.aload_n 0, 1) := by decide +kernel
theorem dX3_addPost_21 : decode cX3_addPost 21 = .ok (.getfield 30, 3) := by decide +kernel
theorem dX3_addPost_24 : decode cX3_addPost 24 = .ok (.iconst 1, 1) := by decide +kernel
theorem dX3_addPost_25 : decode cX3_addPost 25 = .ok (.isub, 1) := by decide +kernel
theorem dX3_addPost_26 : decode cX3_addPost 26 = .ok (.ireturn, 1) := by decide +kernel
theorem dX3_addRoad_0 : decode cX3_addRoad 0 = .ok (.aload_n 0, 1) := by decide +kernel
theorem dX3_addRoad_1 : decode cX3_addRoad 1 = .ok (.getfield 34, 3) := by decide +kernel
theorem dX3_addRoad_4 : decode cX3_addRoad 4 = .ok (.istore_n 3, 1) := by decide +kernel
theorem dX3_addRoad_5 : decode cX3_addRoad 5 = .ok (.aload_n 0, 1) := by decide +kernel
theorem dX3_addRoad_6 : decode cX3_addRoad 6 = .ok (.getfield 9, 3) := by decide +kernel
theorem dX3_addRoad_9 : decode cX3_addRoad 9 = .ok (.iload_n 3, 1) := by decide +kernel
theorem dX3_addRoad_10 : decode cX3_addRoad 10 = .ok (.iload_n 1, 1) := by decide +kernel
theorem dX3_addRoad_11 : decode cX3_addRoad 11 = .ok (.iastore, 1) := by decide +kernel
theorem dX3_addRoad_12 : decode cX3_addRoad 12 = .ok (.aload_n 0, 1) := by decide +kernel
theorem dX3_addRoad_13 : decode cX3_addRoad 13 = .ok (.getfield 15, 3) := by decide +kernel
theorem dX3_addRoad_16 : decode cX3_addRoad 16 = .ok (.iload_n 3, 1) := by decide +kernel
theorem dX3_addRoad_17 : decode cX3_addRoad 17 = .ok (.iload_n 2, 1) := by decide +kernel
theorem dX3_addRoad_18 : decode cX3_addRoad 18 = .ok (.iastore, 1) := by decide +kernel
theorem dX3_addRoad_19 : decode cX3_addRoad 19 = .ok (.aload_n 0, 1) := by decide +kernel
theorem dX3_addRoad_20 : decode cX3_addRoad 20 = .ok (.getfield 18, 3) := by decide +kernel
theorem dX3_addRoad_23 : decode cX3_addRoad 23 = .ok (.iload_n 3, 1) := by decide +kernel
theorem dX3_addRoad_24 : decode cX3_addRoad 24 = .ok (.iconst (-1), 1) := by decide +kernel
theorem dX3_addRoad_25 : decode cX3_addRoad 25 = .ok (.iastore, 1) := by decide +kernel
theorem dX3_addRoad_26 : decode cX3_addRoad 26 = .ok (.aload_n 0, 1) := by decide +kernel
theorem dX3_addRoad_27 : decode cX3_addRoad 27 = .ok (.getfield 21, 3) := by decide +kernel
theorem dX3_addRoad_30 : decode cX3_addRoad 30 = .ok (.iload_n 3, 1) := by decide +kernel
theorem dX3_addRoad_31 : decode cX3_addRoad 31 = .ok (.ldc 37, 2) := by decide +kernel
theorem dX3_addRoad_33 : decode cX3_addRoad 33 = .ok (.iastore, 1) := by decide +kernel
theorem dX3_addRoad_34 : decode cX3_addRoad 34 = .ok (.aload_n 0, 1) := by decide +kernel
theorem dX3_addRoad_35 : decode cX3_addRoad 35 = .ok (.getfield 27, 3) := by decide +kernel
theorem dX3_addRoad_38 : decode cX3_addRoad 38 = .ok (.iload_n 3, 1) := by decide +kernel
theorem dX3_addRoad_39 : decode cX3_addRoad 39 = .ok (.aload_n 0, 1) := by decide +kernel
theorem dX3_addRoad_40 : decode cX3_addRoad 40 = .ok (.getfield 24, 3) := by decide +kernel
theorem dX3_addRoad_43 : decode cX3_addRoad 43 = .ok (.iload_n 1, 1) := by decide +kernel
theorem dX3_addRoad_44 : decode cX3_addRoad 44 = .ok (.iaload, 1) := by decide +kernel
theorem dX3_addRoad_45 : decode cX3_addRoad 45 = .ok (.aload_n 0, 1) := by decide +kernel
theorem dX3_addRoad_46 : decode cX3_addRoad 46 = .ok (.getfield 24, 3) := by decide +kernel
theorem dX3_addRoad_49 : decode cX3_addRoad 49 = .ok (.iload_n 2, 1) := by decide +kernel
theorem dX3_addRoad_50 : decode cX3_addRoad 50 = .ok (.iaload, 1) := by decide +kernel
theorem dX3_addRoad_51 : decode cX3_addRoad 51 = .ok (.ior, 1) := by decide +kernel
theorem dX3_addRoad_52 : decode cX3_addRoad 52 = .ok (.iastore, 1) := by decide +kernel
theorem dX3_addRoad_53 : decode cX3_addRoad 53 = .ok (.iconst 0, 1) := by decide +kernel
theorem dX3_addRoad_54 : decode cX3_addRoad 54 = .ok (.istore 4, 2) := by decide +kernel
theorem dX3_addRoad_56 : decode cX3_addRoad 56 = .ok (.iload 4, 2) := by decide +kernel
theorem dX3_addRoad_58 : decode cX3_addRoad 58 = .ok (.iload_n 3, 1) := by decide +kernel
theorem dX3_addRoad_59 : decode cX3_addRoad 59 = .ok (.if_icmp .ge 36, 3) := by decide +kernel
theorem dX3_addRoad_62 : decode cX3_addRoad 62 = .ok (.aload_n 0, 1) := by decide +kernel
theorem dX3_addRoad_63 : decode cX3_addRoad 63 = .ok (.getfield 27, 3) := by decide +kernel
theorem dX3_addRoad_66 : decode cX3_addRoad 66 = .ok (.iload_n 3, 1) := by decide +kernel
theorem dX3_addRoad_67 : decode cX3_addRoad 67 = .ok (.iaload, 1) := by decide +kernel
theorem dX3_addRoad_68 : decode cX3_addRoad 68 = .ok (.iload 4, 2) := by decide +kernel
theorem dX3_addRoad_70 : decode cX3_addRoad 70 = .ok (.invokestatic 38, 3) := by decide +kernel
theorem dX3_addRoad_73 : decode cX3_addRoad 73 = .ok (.ifCond .eq 16, 3) := by decide +kernel
theorem dX3_addRoad_76 : decode cX3_addRoad 76 = .ok (.aload_n 0, 1) := by decide +kernel
theorem dX3_addRoad_77 : decode cX3_addRoad 77 = .ok (.getfield 27, 3) := by decide +kernel
theorem dX3_addRoad_80 : decode cX3_addRoad 80 = .ok (.iload 4, 2) := by decide +kernel
theorem dX3_addRoad_82 : decode cX3_addRoad 82 = .ok (.dup2, 1) := by decide +kernel
theorem dX3_addRoad_83 : decode cX3_addRoad 83 = .ok (.iaload, 1) := by decide +kernel
theorem dX3_addRoad_84 : decode cX3_addRoad 84 = .ok (.iconst 1, 1) := by decide +kernel
theorem dX3_addRoad_85 : decode cX3_addRoad 85 = .ok (.iload_n 3, 1) := by decide +kernel
theorem dX3_addRoad_86 : decode cX3_addRoad 86 = .ok (.ishl, 1) := by decide +kernel
theorem dX3_addRoad_87 : decode cX3_addRoad 87 = .ok (.ior, 1) := by decide +kernel
theorem dX3_addRoad_88 : decode cX3_addRoad 88 = .ok (.iastore, 1) := by decide +kernel
theorem dX3_addRoad_89 : decode cX3_addRoad 89 = .ok (.iinc 4 1, 3) := by decide +kernel
theorem dX3_addRoad_92 : decode cX3_addRoad 92 = .ok (.goto (-36), 3) := by decide +kernel
theorem dX3_addRoad_95 : decode cX3_addRoad 95 = .ok (.aload_n 0, 1) := by decide +kernel
theorem dX3_addRoad_96 : decode cX3_addRoad 96 = .ok (.getfield 24, 3) := by decide +kernel
theorem dX3_addRoad_99 : decode cX3_addRoad 99 = .ok (.iload_n 1, 1) := by decide +kernel
theorem dX3_addRoad_100 : decode cX3_addRoad 100 = .ok (.dup2, 1) := by decide +kernel
theorem dX3_addRoad_101 : decode cX3_addRoad 101 = .ok (.iaload, 1) := by decide +kernel
theorem dX3_addRoad_102 : decode cX3_addRoad 102 = .ok (.iconst 1, 1) := by decide +kernel
theorem dX3_addRoad_103 : decode cX3_addRoad 103 = .ok (.iload_n 3, 1) := by decide +kernel
theorem dX3_addRoad_104 : decode cX3_addRoad 104 = .ok (.ishl, 1) := by decide +kernel
theorem dX3_addRoad_105 : decode cX3_addRoad 105 = .ok (.ior, 1) := by decide +kernel
theorem dX3_addRoad_106 : decode cX3_addRoad 106 = .ok (.iastore, 1) := by decide +kernel
theorem dX3_addRoad_107 : decode cX3_addRoad 107 = .ok (.aload_n 0, 1) := by decide +kernel
theorem dX3_addRoad_108 : decode cX3_addRoad 108 = .ok (.getfield 24, 3) := by decide +kernel
theorem dX3_addRoad_111 : decode cX3_addRoad 111 = .ok (.iload_n 2, 1) := by decide +kernel
theorem dX3_addRoad_112 : decode cX3_addRoad 112 = .ok (.dup2, 1) := by decide +kernel
theorem dX3_addRoad_113 : decode cX3_addRoad 113 = .ok (.iaload, 1) := by decide +kernel
theorem dX3_addRoad_114 : decode cX3_addRoad 114 = .ok (.iconst 1, 1) := by decide +kernel
theorem dX3_addRoad_115 : decode cX3_addRoad 115 = .ok (.iload_n 3, 1) := by decide +kernel
theorem dX3_addRoad_116 : decode cX3_addRoad 116 = .ok (.ishl, 1) := by decide +kernel
theorem dX3_addRoad_117 : decode cX3_addRoad 117 = .ok (.ior, 1) := by decide +kernel
theorem dX3_addRoad_118 : decode cX3_addRoad 118 = .ok (.iastore, 1) := by decide +kernel
theorem dX3_addRoad_119 : decode cX3_addRoad 119 = .ok (.aload_n 0, 1) := by decide +kernel
theorem dX3_addRoad_120 : decode cX3_addRoad 120 = .ok (.dup, 1) := by decide +kernel
theorem dX3_addRoad_121 : decode cX3_addRoad 121 = .ok (.getfield 34, 3) := by decide +kernel
theorem dX3_addRoad_124 : decode cX3_addRoad 124 = .ok (.iconst 1, 1) := by decide +kernel
theorem dX3_addRoad_125 : decode cX3_addRoad 125 = .ok (.iadd, 1) := by decide +kernel
theorem dX3_addRoad_126 : decode cX3_addRoad 126 = .ok (.putfield 34, 3) := by decide +kernel
theorem dX3_addRoad_129 : decode cX3_addRoad 129 = .ok (.iload_n 3, 1) := by decide +kernel
theorem dX3_addRoad_130 : decode cX3_addRoad 130 = .ok (.ireturn, 1) := by decide +kernel
theorem dX3_removeLatest_0 : decode cX3_removeLatest 0 = .ok (.aload_n 0, 1) := by decide +kernel
theorem dX3_removeLatest_1 : decode cX3_removeLatest 1 = .ok (.dup, 1) := by decide +kernel
theorem dX3_removeLatest_2 : decode cX3_removeLatest 2 = .ok (.getfield 34, 3) := by decide +kernel
theorem dX3_removeLatest_5 : decode cX3_removeLatest 5 = .ok (.iconst 1, 1) := by decide +kernel
theorem dX3_removeLatest_6 : decode cX3_removeLatest 6 = .ok (.isub, 1) := by decide +kernel
theorem dX3_removeLatest_7 : decode cX3_removeLatest 7 = .ok (.putfield 34, 3) := by decide +kernel
theorem dX3_removeLatest_10 : decode cX3_removeLatest 10 = .ok (.aload_n 0, 1) := by decide +kernel
theorem dX3_removeLatest_11 : decode cX3_removeLatest 11 = .ok (.invokevirtual 42, 3) := by decide +kernel
theorem dX3_removeLatest_14 : decode cX3_removeLatest 14 = .ok (.istore_n 1, 1) := by decide +kernel
theorem dX3_removeLatest_15 : decode cX3_removeLatest 15 = .ok (.aload_n 0, 1) := by decide +kernel
theorem dX3_removeLatest_16 : decode cX3_removeLatest 16 = .ok (.getfield 24, 3) := by decide +kernel
theorem dX3_removeLatest_19 : decode cX3_removeLatest 19 = .ok (.aload_n 0, 1) := by decide +kernel
theorem dX3_removeLatest_20 : decode cX3_removeLatest 20 = .ok (.getfield 9, 3) := by decide +kernel
theorem dX3_removeLatest_23 : decode cX3_removeLatest 23 = .ok (.aload_n 0, 1) := by decide +kernel
theorem dX3_removeLatest_24 : decode cX3_removeLatest 24 = .ok (.getfield 34, 3) := by decide +kernel
theorem dX3_removeLatest_27 : decode cX3_removeLatest 27 = .ok (.iaload, 1) := by decide +kernel
theorem dX3_removeLatest_28 : decode cX3_removeLatest 28 = .ok (.dup2, 1) := by decide +kernel
theorem dX3_removeLatest_29 : decode cX3_removeLatest 29 = .ok (.iaload, 1) := by decide +kernel
theorem dX3_removeLatest_30 : decode cX3_removeLatest 30 = .ok (.iload_n 1, 1) := by decide +kernel
theorem dX3_removeLatest_31 : decode cX3_removeLatest 31 = .ok (.iand, 1) := by decide +kernel
theorem dX3_removeLatest_32 : decode cX3_removeLatest 32 = .ok (.iastore, 1) := by decide +kernel
theorem dX3_removeLatest_33 : decode cX3_removeLatest 33 = .ok (.aload_n 0, 1) := by decide +kernel
theorem dX3_removeLatest_34 : decode cX3_removeLatest 34 = .ok (.getfield 24, 3) := by decide +kernel
theorem dX3_removeLatest_37 : decode cX3_removeLatest 37 = .ok (.aload_n 0, 1) := by decide +kernel
theorem dX3_removeLatest_38 : decode cX3_removeLatest 38 = .ok (.getfield 15, 3) := by decide +kernel
theorem dX3_removeLatest_41 : decode cX3_removeLatest 41 = .ok (.aload_n 0, 1) := by decide +kernel
theorem dX3_removeLatest_42 : decode cX3_removeLatest 42 = .ok (.getfield 34, 3) := by decide +kernel
theorem dX3_removeLatest_45 : decode cX3_removeLatest 45 = .ok (.iaload, 1) := by decide +kernel
theorem dX3_removeLatest_46 : decode cX3_removeLatest 46 = .ok (.dup2, 1) := by decide +kernel
theorem dX3_removeLatest_47 : decode cX3_removeLatest 47 = .ok (.iaload, 1) := by decide +kernel
theorem dX3_removeLatest_48 : decode cX3_removeLatest 48 = .ok (.iload_n 1, 1) := by decide +kernel
theorem dX3_removeLatest_49 : decode cX3_removeLatest 49 = .ok (.iand, 1) := by decide +kernel
theorem dX3_removeLatest_50 : decode cX3_removeLatest 50 = .ok (.iastore, 1) := by decide +kernel
theorem dX3_removeLatest_51 : decode cX3_removeLatest 51 = .ok (.iconst 0, 1) := by decide +kernel
theorem dX3_removeLatest_52 : decode cX3_removeLatest 52 = .ok (.istore_n 2, 1) := by decide +kernel
theorem dX3_removeLatest_53 : decode cX3_removeLatest 53 = .ok (.iload_n 2, 1) := by decide +kernel
theorem dX3_removeLatest_54 : decode cX3_removeLatest 54 = .ok (.aload_n 0, 1) := by decide +kernel
theorem dX3_removeLatest_55 : decode cX3_removeLatest 55 = .ok (.getfield 34, 3) := by decide +kernel
theorem dX3_removeLatest_58 : decode cX3_removeLatest 58 = .ok (.if_icmp .ge 19, 3) := by decide +kernel
theorem dX3_removeLatest_61 : decode cX3_removeLatest 61 = .ok (.aload_n 0, 1) := by decide +kernel
theorem dX3_removeLatest_62 : decode cX3_removeLatest 62 = .ok (.getfield 27, 3) := by decide +kernel
theorem dX3_removeLatest_65 : decode cX3_removeLatest 65 = .ok (.iload_n 2, 1) := by decide +kernel
theorem dX3_removeLatest_66 : decode cX3_removeLatest 66 = .ok (.dup2, 1) := by decide +kernel
theorem dX3_removeLatest_67 : decode cX3_removeLatest 67 = .ok (.iaload, 1) := by decide +kernel
theorem dX3_removeLatest_68 : decode cX3_removeLatest 68 = .ok (.iload_n 1, 1) := by decide +kernel
theorem dX3_removeLatest_69 : decode cX3_removeLatest 69 = .ok (.iand, 1) := by decide +kernel
theorem dX3_removeLatest_70 : decode cX3_removeLatest 70 = .ok (.iastore, 1) := by decide +kernel
theorem dX3_removeLatest_71 : decode cX3_removeLatest 71 = .ok (.iinc 2 1, 3) := by decide +kernel
theorem dX3_removeLatest_74 : decode cX3_removeLatest 74 = .ok (.goto (-21), 3) := by decide +kernel
theorem dX3_removeLatest_77 : decode cX3_removeLatest 77 = .ok (.aload_n 0, 1) := by decide +kernel
theorem dX3_removeLatest_78 : decode cX3_removeLatest 78 = .ok (.getfield 34, 3) := by decide +kernel
theorem dX3_removeLatest_81 : decode cX3_removeLatest 81 = .ok (.ireturn, 1) := by decide +kernel
theorem dX3_numberedRoads_0 : decode cX3_numberedRoads 0 = .ok (.iconst 0, 1) := by decide +kernel
theorem dX3_numberedRoads_1 : decode cX3_numberedRoads 1 = .ok (.istore_n 1, 1) := by decide +kernel
theorem dX3_numberedRoads_2 : decode cX3_numberedRoads 2 = .ok (.iconst 0, 1) := by decide +kernel
theorem dX3_numberedRoads_3 : decode cX3_numberedRoads 3 = .ok (.istore_n 2, 1) := by decide +kernel
theorem dX3_numberedRoads_4 : decode cX3_numberedRoads 4 = .ok (.iload_n 2, 1) := by decide +kernel
theorem dX3_numberedRoads_5 : decode cX3_numberedRoads 5 = .ok (.aload_n 0, 1) := by decide +kernel
theorem dX3_numberedRoads_6 : decode cX3_numberedRoads 6 = .ok (.getfield 34, 3) := by decide +kernel
theorem dX3_numberedRoads_9 : decode cX3_numberedRoads 9 = .ok (.if_icmp .ge 22, 3) := by decide +kernel
theorem dX3_numberedRoads_12 : decode cX3_numberedRoads 12 = .ok (.aload_n 0, 1) := by decide +kernel
theorem dX3_numberedRoads_13 : decode cX3_numberedRoads 13 = .ok (.getfield 18, 3) := by decide +kernel
theorem dX3_numberedRoads_16 : decode cX3_numberedRoads 16 = .ok (.iload_n 2, 1) := by decide +kernel
theorem dX3_numberedRoads_17 : decode cX3_numberedRoads 17 = .ok (.iaload, 1) := by decide +kernel
theorem dX3_numberedRoads_18 : decode cX3_numberedRoads 18 = .ok (.iconst (-1), 1) := by decide +kernel
theorem dX3_numberedRoads_19 : decode cX3_numberedRoads 19 = .ok (.if_icmp .eq 6, 3) := by decide +kernel
theorem dX3_numberedRoads_22 : decode cX3_numberedRoads 22 = .ok (.iinc 1 1, 3) := by decide +kernel
theorem dX3_numberedRoads_25 : decode cX3_numberedRoads 25 = .ok (.iinc 2 1, 3) := by decide +kernel
theorem dX3_numberedRoads_28 : decode cX3_numberedRoads 28 = .ok (.goto (-24), 3) := by decide +kernel
theorem dX3_numberedRoads_31 : decode cX3_numberedRoads 31 = .ok (.iload_n 1, 1) := by decide +kernel
theorem dX3_numberedRoads_32 : decode cX3_numberedRoads 32 = .ok (.ireturn, 1) := by decide +kernel
theorem dX3_greatestNumber_0 : decode cX3_greatestNumber 0 = .ok (.iconst (-1), 1) := by decide +kernel
theorem dX3_greatestNumber_1 : decode cX3_greatestNumber 1 = .ok (.istore_n 1, 1) := by decide +kernel
theorem dX3_greatestNumber_2 : decode cX3_greatestNumber 2 = .ok (.iconst 0, 1) := by decide +kernel
theorem dX3_greatestNumber_3 : decode cX3_greatestNumber 3 = .ok (.istore_n 2, 1) := by decide +kernel
theorem dX3_greatestNumber_4 : decode cX3_greatestNumber 4 = .ok (.iload_n 2, 1) := by decide +kernel
theorem dX3_greatestNumber_5 : decode cX3_greatestNumber 5 = .ok (.aload_n 0, 1) := by decide +kernel
theorem dX3_greatestNumber_6 : decode cX3_greatestNumber 6 = .ok (.getfield 34, 3) := by decide +kernel
theorem dX3_greatestNumber_9 : decode cX3_greatestNumber 9 = .ok (.if_icmp .ge 20, 3) := by decide +kernel
theorem dX3_greatestNumber_12 : decode cX3_greatestNumber 12 = .ok (.iload_n 1, 1) := by decide +kernel
theorem dX3_greatestNumber_13 : decode cX3_greatestNumber 13 = .ok (.aload_n 0, 1) := by decide +kernel
theorem dX3_greatestNumber_14 : decode cX3_greatestNumber 14 = .ok (.getfield 18, 3) := by decide +kernel
theorem dX3_greatestNumber_17 : decode cX3_greatestNumber 17 = .ok (.iload_n 2, 1) := by decide +kernel
theorem dX3_greatestNumber_18 : decode cX3_greatestNumber 18 = .ok (.iaload, 1) := by decide +kernel
theorem dX3_greatestNumber_19 : decode cX3_greatestNumber 19 = .ok (.invokestatic 46, 3) := by decide +kernel
theorem dX3_greatestNumber_22 : decode cX3_greatestNumber 22 = .ok (.istore_n 1, 1) := by decide +kernel
theorem dX3_greatestNumber_23 : decode cX3_greatestNumber 23 = .ok (.iinc 2 1, 3) := by decide +kernel
theorem dX3_greatestNumber_26 : decode cX3_greatestNumber 26 = .ok (.goto (-22), 3) := by decide +kernel
theorem dX3_greatestNumber_29 : decode cX3_greatestNumber 29 = .ok (.iload_n 1, 1) := by decide +kernel
theorem dX3_greatestNumber_30 : decode cX3_greatestNumber 30 = .ok (.ireturn, 1) := by decide +kernel
theorem dX3_forgetNumbers_0 : decode cX3_forgetNumbers 0 = .ok (.iconst 0, 1) := by decide +kernel
theorem dX3_forgetNumbers_1 : decode cX3_forgetNumbers 1 = .ok (.istore_n 1, 1) := by decide +kernel
theorem dX3_forgetNumbers_2 : decode cX3_forgetNumbers 2 = .ok (.iload_n 1, 1) := by decide +kernel
theorem dX3_forgetNumbers_3 : decode cX3_forgetNumbers 3 = .ok (.aload_n 0, 1) := by decide +kernel
theorem dX3_forgetNumbers_4 : decode cX3_forgetNumbers 4 = .ok (.getfield 34, 3) := by decide +kernel
theorem dX3_forgetNumbers_7 : decode cX3_forgetNumbers 7 = .ok (.if_icmp .ge 16, 3) := by decide +kernel
theorem dX3_forgetNumbers_10 : decode cX3_forgetNumbers 10 = .ok (.aload_n 0, 1) := by decide +kernel
theorem dX3_forgetNumbers_11 : decode cX3_forgetNumbers 11 = .ok (.getfield 18, 3) := by decide +kernel
theorem dX3_forgetNumbers_14 : decode cX3_forgetNumbers 14 = .ok (.iload_n 1, 1) := by decide +kernel
theorem dX3_forgetNumbers_15 : decode cX3_forgetNumbers 15 = .ok (.iconst (-1), 1) := by decide +kernel
theorem dX3_forgetNumbers_16 : decode cX3_forgetNumbers 16 = .ok (.iastore, 1) := by decide +kernel
theorem dX3_forgetNumbers_17 : decode cX3_forgetNumbers 17 = .ok (.iinc 1 1, 3) := by decide +kernel
theorem dX3_forgetNumbers_20 : decode cX3_forgetNumbers 20 = .ok (.goto (-18), 3) := by decide +kernel
theorem dX3_forgetNumbers_23 : decode cX3_forgetNumbers 23 = .ok (.return_, 1) := by decide +kernel
theorem dX3_fullest_0 : decode cX3_fullest 0 = .ok (.iconst 0, 1) := by decide +kernel
theorem dX3_fullest_1 : decode cX3_fullest 1 = .ok (.istore_n 1, 1) := by decide +kernel
theorem dX3_fullest_2 : decode cX3_fullest 2 = .ok (.iconst 0, 1) := by decide +kernel
theorem dX3_fullest_3 : decode cX3_fullest 3 = .ok (.istore_n 2, 1) := by decide +kernel
theorem dX3_fullest_4 : decode cX3_fullest 4 = .ok (.iload_n 2, 1) := by decide +kernel
theorem dX3_fullest_5 : decode cX3_fullest 5 = .ok (.aload_n 0, 1) := by decide +kernel
theorem dX3_fullest_6 : decode cX3_fullest 6 = .ok (.getfield 30, 3) := by decide +kernel
theorem dX3_fullest_9 : decode cX3_fullest 9 = .ok (.if_icmp .ge 23, 3) := by decide +kernel
theorem dX3_fullest_12 : decode cX3_fullest 12 = .ok (.iload_n 1, 1) := by decide +kernel
theorem dX3_fullest_13 : decode cX3_fullest 13 = .ok (.aload_n 0, 1) := by decide +kernel
theorem dX3_fullest_14 : decode cX3_fullest 14 = .ok (.getfield 24, 3) := by decide +kernel
theorem dX3_fullest_17 : decode cX3_fullest 17 = .ok (.iload_n 2, 1) := by decide +kernel
theorem dX3_fullest_18 : decode cX3_fullest 18 = .ok (.iaload, 1) := by decide +kernel
theorem dX3_fullest_19 : decode cX3_fullest 19 = .ok (.invokestatic 52, 3) := by decide +kernel
theorem dX3_fullest_22 : decode cX3_fullest 22 = .ok (.invokestatic 46, 3) := by decide +kernel
theorem dX3_fullest_25 : decode cX3_fullest 25 = .ok (.istore_n 1, 1) := by decide +kernel
theorem dX3_fullest_26 : decode cX3_fullest 26 = .ok (.iinc 2 1, 3) := by decide +kernel
theorem dX3_fullest_29 : decode cX3_fullest 29 = .ok (.goto (-25), 3) := by decide +kernel
theorem dX3_fullest_32 : decode cX3_fullest 32 = .ok (.iload_n 1, 1) := by decide +kernel
theorem dX3_fullest_33 : decode cX3_fullest 33 = .ok (.ireturn, 1) := by decide +kernel
theorem dX3_isPlain_0 : decode cX3_isPlain 0 = .ok (.iconst 0, 1) := by decide +kernel
theorem dX3_isPlain_1 : decode cX3_isPlain 1 = .ok (.istore_n 1, 1) := by decide +kernel
theorem dX3_isPlain_2 : decode cX3_isPlain 2 = .ok (.iload_n 1, 1) := by decide +kernel
theorem dX3_isPlain_3 : decode cX3_isPlain 3 = .ok (.aload_n 0, 1) := by decide +kernel
theorem dX3_isPlain_4 : decode cX3_isPlain 4 = .ok (.getfield 34, 3) := by decide +kernel
theorem dX3_isPlain_7 : decode cX3_isPlain 7 = .ok (.if_icmp .ge 41, 3) := by decide +kernel
theorem dX3_isPlain_10 : decode cX3_isPlain 10 = .ok (.aload_n 0, 1) := by decide +kernel
theorem dX3_isPlain_11 : decode cX3_isPlain 11 = .ok (.getfield 24, 3) := by decide +kernel
theorem dX3_isPlain_14 : decode cX3_isPlain 14 = .ok (.aload_n 0, 1) := by decide +kernel
theorem dX3_isPlain_15 : decode cX3_isPlain 15 = .ok (.getfield 9, 3) := by decide +kernel
theorem dX3_isPlain_18 : decode cX3_isPlain 18 = .ok (.iload_n 1, 1) := by decide +kernel
theorem dX3_isPlain_19 : decode cX3_isPlain 19 = .ok (.iaload, 1) := by decide +kernel
theorem dX3_isPlain_20 : decode cX3_isPlain 20 = .ok (.iaload, 1) := by decide +kernel
theorem dX3_isPlain_21 : decode cX3_isPlain 21 = .ok (.aload_n 0, 1) := by decide +kernel
theorem dX3_isPlain_22 : decode cX3_isPlain 22 = .ok (.getfield 24, 3) := by decide +kernel
theorem dX3_isPlain_25 : decode cX3_isPlain 25 = .ok (.aload_n 0, 1) := by decide +kernel
theorem dX3_isPlain_26 : decode cX3_isPlain 26 = .ok (.getfield 15, 3) := by decide +kernel
theorem dX3_isPlain_29 : decode cX3_isPlain 29 = .ok (.iload_n 1, 1) := by decide +kernel
theorem dX3_isPlain_30 : decode cX3_isPlain 30 = .ok (.iaload, 1) := by decide +kernel
theorem dX3_isPlain_31 : decode cX3_isPlain 31 = .ok (.iaload, 1) := by decide +kernel
theorem dX3_isPlain_32 : decode cX3_isPlain 32 = .ok (.iand, 1) := by decide +kernel
theorem dX3_isPlain_33 : decode cX3_isPlain 33 = .ok (.invokestatic 52, 3) := by decide +kernel
theorem dX3_isPlain_36 : decode cX3_isPlain 36 = .ok (.iconst 1, 1) := by decide +kernel
theorem dX3_isPlain_37 : decode cX3_isPlain 37 = .ok (.if_icmp .le 5, 3) := by decide +kernel
theorem dX3_isPlain_40 : decode cX3_isPlain 40 = .ok (.iconst 0, 1) := by decide +kernel
theorem dX3_isPlain_41 : decode cX3_isPlain 41 = .ok (.ireturn, 1) := by decide +kernel
theorem dX3_isPlain_42 : decode cX3_isPlain 42 = .ok (.iinc 1 1, 3) := by decide +kernel
theorem dX3_isPlain_45 : decode cX3_isPlain 45 = .ok (.goto (-43), 3) := by decide +kernel
theorem dX3_isPlain_48 : decode cX3_isPlain 48 = .ok (.iconst 1, 1) := by decide +kernel
theorem dX3_isPlain_49 : decode cX3_isPlain 49 = .ok (.ireturn, 1) := by decide +kernel
theorem dX3_numbersAt_0 : decode cX3_numbersAt 0 = .ok (.iconst 0, 1) := by decide +kernel
theorem dX3_numbersAt_1 : decode cX3_numbersAt 1 = .ok (.istore_n 2, 1) := by decide +kernel
theorem dX3_numbersAt_2 : decode cX3_numbersAt 2 = .ok (.iconst 0, 1) := by decide +kernel
theorem dX3_numbersAt_3 : decode cX3_numbersAt 3 = .ok (.istore_n 3, 1) := by decide +kernel
theorem dX3_numbersAt_4 : decode cX3_numbersAt 4 = .ok (.iload_n 3, 1) := by decide +kernel
theorem dX3_numbersAt_5 : decode cX3_numbersAt 5 = .ok (.aload_n 0, 1) := by decide +kernel
theorem dX3_numbersAt_6 : decode cX3_numbersAt 6 = .ok (.getfield 34, 3) := by decide +kernel
theorem dX3_numbersAt_9 : decode cX3_numbersAt 9 = .ok (.if_icmp .ge 43, 3) := by decide +kernel
theorem dX3_numbersAt_12 : decode cX3_numbersAt 12 = .ok (.aload_n 0, 1) := by decide +kernel
theorem dX3_numbersAt_13 : decode cX3_numbersAt 13 = .ok (.getfield 24, 3) := by decide +kernel
theorem dX3_numbersAt_16 : decode cX3_numbersAt 16 = .ok (.iload_n 1, 1) := by decide +kernel
theorem dX3_numbersAt_17 : decode cX3_numbersAt 17 = .ok (.iaload, 1) := by decide +kernel
theorem dX3_numbersAt_18 : decode cX3_numbersAt 18 = .ok (.iload_n 3, 1) := by decide +kernel
theorem dX3_numbersAt_19 : decode cX3_numbersAt 19 = .ok (.invokestatic 38, 3) := by decide +kernel
theorem dX3_numbersAt_22 : decode cX3_numbersAt 22 = .ok (.ifCond .eq 24, 3) := by decide +kernel
theorem dX3_numbersAt_25 : decode cX3_numbersAt 25 = .ok (.aload_n 0, 1) := by decide +kernel
theorem dX3_numbersAt_26 : decode cX3_numbersAt 26 = .ok (.getfield 18, 3) := by decide +kernel
theorem dX3_numbersAt_29 : decode cX3_numbersAt 29 = .ok (.iload_n 3, 1) := by decide +kernel
theorem dX3_numbersAt_30 : decode cX3_numbersAt 30 = .ok (.iaload, 1) := by decide +kernel
theorem dX3_numbersAt_31 : decode cX3_numbersAt 31 = .ok (.iconst (-1), 1) := by decide +kernel
theorem dX3_numbersAt_32 : decode cX3_numbersAt 32 = .ok (.if_icmp .eq 14, 3) := by decide +kernel
theorem dX3_numbersAt_35 : decode cX3_numbersAt 35 = .ok (.iload_n 2, 1) := by decide +kernel
theorem dX3_numbersAt_36 : decode cX3_numbersAt 36 = .ok (.iconst 1, 1) := by decide +kernel
theorem dX3_numbersAt_37 : decode cX3_numbersAt 37 = .ok (.aload_n 0, 1) := by decide +kernel
theorem dX3_numbersAt_38 : decode cX3_numbersAt 38 = .ok (.getfield 18, 3) := by decide +kernel
theorem dX3_numbersAt_41 : decode cX3_numbersAt 41 = .ok (.iload_n 3, 1) := by decide +kernel
theorem dX3_numbersAt_42 : decode cX3_numbersAt 42 = .ok (.iaload, 1) := by decide +kernel
theorem dX3_numbersAt_43 : decode cX3_numbersAt 43 = .ok (.ishl, 1) := by decide +kernel
theorem dX3_numbersAt_44 : decode cX3_numbersAt 44 = .ok (.ior, 1) := by decide +kernel
theorem dX3_numbersAt_45 : decode cX3_numbersAt 45 = .ok (.istore_n 2, 1) := by decide +kernel
theorem dX3_numbersAt_46 : decode cX3_numbersAt 46 = .ok (.iinc 3 1, 3) := by decide +kernel
theorem dX3_numbersAt_49 : decode cX3_numbersAt 49 = .ok (.goto (-45), 3) := by decide +kernel
theorem dX3_numbersAt_52 : decode cX3_numbersAt 52 = .ok (.iload_n 2, 1) := by decide +kernel
theorem dX3_numbersAt_53 : decode cX3_numbersAt 53 = .ok (.ireturn, 1) := by decide +kernel
theorem dX3_leastFree_0 : decode cX3_leastFree 0 = .ok (.aload_n 0, 1) := by decide +kernel
theorem dX3_leastFree_1 : decode cX3_leastFree 1 = .ok (.iload_n 1, 1) := by decide +kernel
theorem dX3_leastFree_2 : decode cX3_leastFree 2 = .ok (.invokevirtual 58, 3) := by decide +kernel
theorem dX3_leastFree_5 : decode cX3_leastFree 5 = .ok (.invokestatic 61, 3) := by decide +kernel
theorem dX3_leastFree_8 : decode cX3_leastFree 8 = .ok (.ireturn, 1) := by decide +kernel
theorem dX3_roadWith_0 : decode cX3_roadWith 0 = .ok (.iconst 0, 1) := by decide +kernel
theorem dX3_roadWith_1 : decode cX3_roadWith 1 = .ok (.istore_n 3, 1) := by decide +kernel
theorem dX3_roadWith_2 : decode cX3_roadWith 2 = .ok (.iload_n 3, 1) := by decide +kernel
theorem dX3_roadWith_3 : decode cX3_roadWith 3 = .ok (.aload_n 0, 1) := by decide +kernel
theorem dX3_roadWith_4 : decode cX3_roadWith 4 = .ok (.getfield 34, 3) := by decide +kernel
theorem dX3_roadWith_7 : decode cX3_roadWith 7 = .ok (.if_icmp .ge 34, 3) := by decide +kernel
theorem dX3_roadWith_10 : decode cX3_roadWith 10 = .ok (.aload_n 0, 1) := by decide +kernel
theorem dX3_roadWith_11 : decode cX3_roadWith 11 = .ok (.getfield 24, 3) := by decide +kernel
theorem dX3_roadWith_14 : decode cX3_roadWith 14 = .ok (.iload_n 1, 1) := by decide +kernel
theorem dX3_roadWith_15 : decode cX3_roadWith 15 = .ok (.iaload, 1) := by decide +kernel
theorem dX3_roadWith_16 : decode cX3_roadWith 16 = .ok (.iload_n 3, 1) := by decide +kernel
theorem dX3_roadWith_17 : decode cX3_roadWith 17 = .ok (.invokestatic 38, 3) := by decide +kernel
theorem dX3_roadWith_20 : decode cX3_roadWith 20 = .ok (.ifCond .eq 15, 3) := by decide +kernel
theorem dX3_roadWith_23 : decode cX3_roadWith 23 = .ok (.aload_n 0, 1) := by decide +kernel
theorem dX3_roadWith_24 : decode cX3_roadWith 24 = .ok (.getfield 18, 3) := by decide +kernel
theorem dX3_roadWith_27 : decode cX3_roadWith 27 = .ok (.iload_n 3, 1) := by decide +kernel
theorem dX3_roadWith_28 : decode cX3_roadWith 28 = .ok (.iaload, 1) := by decide +kernel
theorem dX3_roadWith_29 : decode cX3_roadWith 29 = .ok (.iload_n 2, 1) := by decide +kernel
theorem dX3_roadWith_30 : decode cX3_roadWith 30 = .ok (.if_icmp .ne 5, 3) := by decide +kernel
theorem dX3_roadWith_33 : decode cX3_roadWith 33 = .ok (.iload_n 3, 1) := by decide +kernel
theorem dX3_roadWith_34 : decode cX3_roadWith 34 = .ok (.ireturn, 1) := by decide +kernel
theorem dX3_roadWith_35 : decode cX3_roadWith 35 = .ok (.iinc 3 1, 3) := by decide +kernel
theorem dX3_roadWith_38 : decode cX3_roadWith 38 = .ok (.goto (-36), 3) := by decide +kernel
theorem dX3_roadWith_41 : decode cX3_roadWith 41 = .ok (.iconst (-1), 1) := by decide +kernel
theorem dX3_roadWith_42 : decode cX3_roadWith 42 = .ok (.ireturn, 1) := by decide +kernel
theorem dX3_leastClashing_0 : decode cX3_leastClashing 0 = .ok (.iconst 0, 1) := by decide +kernel
theorem dX3_leastClashing_1 : decode cX3_leastClashing 1 = .ok (.istore_n 1, 1) := by decide +kernel
theorem dX3_leastClashing_2 : decode cX3_leastClashing 2 = .ok (.iload_n 1, 1) := by decide +kernel
theorem dX3_leastClashing_3 : decode cX3_leastClashing 3 = .ok (.aload_n 0, 1) := by decide +kernel
theorem dX3_leastClashing_4 : decode cX3_leastClashing 4 = .ok (.getfield 34, 3) := by decide +kernel
theorem dX3_leastClashing_7 : decode cX3_leastClashing 7 = .ok (.if_icmp .ge 41, 3) := by decide +kernel
theorem dX3_leastClashing_10 : decode cX3_leastClashing 10 = .ok (.aload_n 0, 1) := by decide +kernel
theorem dX3_leastClashing_11 : decode cX3_leastClashing 11 = .ok (.getfield 18, 3) := by decide +kernel
theorem dX3_leastClashing_14 : decode cX3_leastClashing 14 = .ok (.iload_n 1, 1) := by decide +kernel
theorem dX3_leastClashing_15 : decode cX3_leastClashing 15 = .ok (.iaload, 1) := by decide +kernel
theorem dX3_leastClashing_16 : decode cX3_leastClashing 16 = .ok (.iconst (-1), 1) := by decide +kernel
theorem dX3_leastClashing_17 : decode cX3_leastClashing 17 = .ok (.if_icmp .eq 25, 3) := by decide +kernel
theorem dX3_leastClashing_20 : decode cX3_leastClashing 20 = .ok (.aload_n 0, 1) := by decide +kernel
theorem dX3_leastClashing_21 : decode cX3_leastClashing 21 = .ok (.getfield 27, 3) := by decide +kernel
theorem dX3_leastClashing_24 : decode cX3_leastClashing 24 = .ok (.iload_n 1, 1) := by decide +kernel
theorem dX3_leastClashing_25 : decode cX3_leastClashing 25 = .ok (.iaload, 1) := by decide +kernel
theorem dX3_leastClashing_26 : decode cX3_leastClashing 26 = .ok (.aload_n 0, 1) := by decide +kernel
theorem dX3_leastClashing_27 : decode cX3_leastClashing 27 = .ok (.aload_n 0, 1) := by decide +kernel
theorem dX3_leastClashing_28 : decode cX3_leastClashing 28 = .ok (.getfield 18, 3) := by decide +kernel
theorem dX3_leastClashing_31 : decode cX3_leastClashing 31 = .ok (.iload_n 1, 1) := by decide +kernel
theorem dX3_leastClashing_32 : decode cX3_leastClashing 32 = .ok (.iaload, 1) := by decide +kernel
theorem dX3_leastClashing_33 : decode cX3_leastClashing 33 = .ok (.invokevirtual 64, 3) := by decide +kernel
theorem dX3_leastClashing_36 : decode cX3_leastClashing 36 = .ok (.iand, 1) := by decide +kernel
theorem dX3_leastClashing_37 : decode cX3_leastClashing 37 = .ok (.ifCond .eq 5, 3) := by decide +kernel
theorem dX3_leastClashing_40 : decode cX3_leastClashing 40 = .ok (.iload_n 1, 1) := by decide +kernel
theorem dX3_leastClashing_41 : decode cX3_leastClashing 41 = .ok (.ireturn, 1) := by decide +kernel
theorem dX3_leastClashing_42 : decode cX3_leastClashing 42 = .ok (.iinc 1 1, 3) := by decide +kernel
theorem dX3_leastClashing_45 : decode cX3_leastClashing 45 = .ok (.goto (-43), 3) := by decide +kernel
theorem dX3_leastClashing_48 : decode cX3_leastClashing 48 = .ok (.iconst (-1), 1) := by decide +kernel
theorem dX3_leastClashing_49 : decode cX3_leastClashing 49 = .ok (.ireturn, 1) := by decide +kernel
theorem dX3_roadsNumbered_0 : decode cX3_roadsNumbered 0 = .ok (.iconst 0, 1) := by decide +kernel
theorem dX3_roadsNumbered_1 : decode cX3_roadsNumbered 1 = .ok (.istore_n 2, 1) := by decide +kernel
theorem dX3_roadsNumbered_2 : decode cX3_roadsNumbered 2 = .ok (.iconst 0, 1) := by decide +kernel
theorem dX3_roadsNumbered_3 : decode cX3_roadsNumbered 3 = .ok (.istore_n 3, 1) := by decide +kernel
theorem dX3_roadsNumbered_4 : decode cX3_roadsNumbered 4 = .ok (.iload_n 3, 1) := by decide +kernel
theorem dX3_roadsNumbered_5 : decode cX3_roadsNumbered 5 = .ok (.aload_n 0, 1) := by decide +kernel
theorem dX3_roadsNumbered_6 : decode cX3_roadsNumbered 6 = .ok (.getfield 34, 3) := by decide +kernel
theorem dX3_roadsNumbered_9 : decode cX3_roadsNumbered 9 = .ok (.if_icmp .ge 25, 3) := by decide +kernel
theorem dX3_roadsNumbered_12 : decode cX3_roadsNumbered 12 = .ok (.aload_n 0, 1) := by decide +kernel
theorem dX3_roadsNumbered_13 : decode cX3_roadsNumbered 13 = .ok (.getfield 18, 3) := by decide +kernel
theorem dX3_roadsNumbered_16 : decode cX3_roadsNumbered 16 = .ok (.iload_n 3, 1) := by decide +kernel
theorem dX3_roadsNumbered_17 : decode cX3_roadsNumbered 17 = .ok (.iaload, 1) := by decide +kernel
theorem dX3_roadsNumbered_18 : decode cX3_roadsNumbered 18 = .ok (.iload_n 1, 1) := by decide +kernel
theorem dX3_roadsNumbered_19 : decode cX3_roadsNumbered 19 = .ok (.if_icmp .ne 9, 3) := by decide +kernel
theorem dX3_roadsNumbered_22 : decode cX3_roadsNumbered 22 = .ok (.iload_n 2, 1) := by decide +kernel
theorem dX3_roadsNumbered_23 : decode cX3_roadsNumbered 23 = .ok (.iconst 1, 1) := by decide +kernel
theorem dX3_roadsNumbered_24 : decode cX3_roadsNumbered 24 = .ok (.iload_n 3, 1) := by decide +kernel
theorem dX3_roadsNumbered_25 : decode cX3_roadsNumbered 25 = .ok (.ishl, 1) := by decide +kernel
theorem dX3_roadsNumbered_26 : decode cX3_roadsNumbered 26 = .ok (.ior, 1) := by decide +kernel
theorem dX3_roadsNumbered_27 : decode cX3_roadsNumbered 27 = .ok (.istore_n 2, 1) := by decide +kernel
theorem dX3_roadsNumbered_28 : decode cX3_roadsNumbered 28 = .ok (.iinc 3 1, 3) := by decide +kernel
theorem dX3_roadsNumbered_31 : decode cX3_roadsNumbered 31 = .ok (.goto (-27), 3) := by decide +kernel
theorem dX3_roadsNumbered_34 : decode cX3_roadsNumbered 34 = .ok (.iload_n 2, 1) := by decide +kernel
theorem dX3_roadsNumbered_35 : decode cX3_roadsNumbered 35 = .ok (.ireturn, 1) := by decide +kernel
theorem dX3_roadsInside_0 : decode cX3_roadsInside 0 = .ok (.iconst 0, 1) := by decide +kernel
theorem dX3_roadsInside_1 : decode cX3_roadsInside 1 = .ok (.istore_n 2, 1) := by decide +kernel
theorem dX3_roadsInside_2 : decode cX3_roadsInside 2 = .ok (.iconst 0, 1) := by decide +kernel
theorem dX3_roadsInside_3 : decode cX3_roadsInside 3 = .ok (.istore_n 3, 1) := by decide +kernel
theorem dX3_roadsInside_4 : decode cX3_roadsInside 4 = .ok (.iload_n 3, 1) := by decide +kernel
theorem dX3_roadsInside_5 : decode cX3_roadsInside 5 = .ok (.aload_n 0, 1) := by decide +kernel
theorem dX3_roadsInside_6 : decode cX3_roadsInside 6 = .ok (.getfield 34, 3) := by decide +kernel
theorem dX3_roadsInside_9 : decode cX3_roadsInside 9 = .ok (.if_icmp .ge 38, 3) := by decide +kernel
theorem dX3_roadsInside_12 : decode cX3_roadsInside 12 = .ok (.iload_n 1, 1) := by decide +kernel
theorem dX3_roadsInside_13 : decode cX3_roadsInside 13 = .ok (.aload_n 0, 1) := by decide +kernel
theorem dX3_roadsInside_14 : decode cX3_roadsInside 14 = .ok (.getfield 9, 3) := by decide +kernel
theorem dX3_roadsInside_17 : decode cX3_roadsInside 17 = .ok (.iload_n 3, 1) := by decide +kernel
theorem dX3_roadsInside_18 : decode cX3_roadsInside 18 = .ok (.iaload, 1) := by decide +kernel
